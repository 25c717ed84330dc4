theorem dX11_right_31 : decode cX11_right 31 = .ok (.iconst 0, 1) := by decide +kernel
theorem dX11_right_32 : decode cX11_right 32 = .ok (.istore 5, 2) := by decide +kernel
theorem dX11_right_34 : decode cX11_right 34 = .ok (.iconst 0, 1) := by decide +kernel
theorem dX11_right_35 : decode cX11_right 35 = .ok (.istore 6, 2) := by decide +kernel
theorem dX11_right_37 : decode cX11_right 37 = .ok (.iload 6, 2) := by decide +kernel
theorem dX11_right_39 : decode cX11_right 39 = .ok (.iload_n 3, 1) := by decide +kernel
theorem dX11_right_40 : decode cX11_right 40 = .ok (.if_icmp .ge 54, 3) := by decide +kernel
theorem dX11_right_43 : decode cX11_right 43 = .ok (.aload_n 0, 1) := by decide +kernel
theorem dX11_right_44 : decode cX11_right 44 = .ok (.getfield 10, 3) := by decide +kernel
theorem dX11_right_47 : decode cX11_right 47 = .ok (.invokevirtual 202, 3) := by decide +kernel
theorem dX11_right_50 : decode cX11_right 50 = .ok (.pop, 1) := by decide +kernel
theorem dX11_right_51 : decode cX11_right 51 = .ok (.aload_n 0, 1) := by decide +kernel
theorem dX11_right_52 : decode cX11_right 52 = .ok (.getfield 10, 3) := by decide +kernel
theorem dX11_right_55 : decode cX11_right 55 = .ok (.getfield 155, 3) := by decide +kernel
theorem dX11_right_58 : decode cX11_right 58 = .ok (.iconst 4, 1) := by decide +kernel
theorem dX11_right_59 : decode cX11_right 59 = .ok (.aload_n 0, 1) := by decide +kernel
theorem dX11_right_60 : decode cX11_right 60 = .ok (.getfield 10, 3) := by decide +kernel
theorem dX11_right_63 : decode cX11_right 63 = .ok (.getfield 158, 3) := by decide +kernel
theorem dX11_right_66 : decode cX11_right 66 = .ok (.imul, 1) := by decide +kernel
theorem dX11_right_67 : decode cX11_right 67 = .ok (.isub, 1) := by decide +kernel
theorem dX11_right_68 : decode cX11_right 68 = .ok (.invokestatic 228, 3) := by decide +kernel
theorem dX11_right_71 : decode cX11_right 71 = .ok (.istore 7, 2) := by decide +kernel
theorem dX11_right_73 : decode cX11_right 73 = .ok (.iload 5, 2) := by decide +kernel
theorem dX11_right_75 : decode cX11_right 75 = .ok (.iload 7, 2) := by decide +kernel
theorem dX11_right_77 : decode cX11_right 77 = .ok (.iadd, 1) := by decide +kernel
theorem dX11_right_78 : decode cX11_right 78 = .ok (.istore 5, 2) := by decide +kernel
theorem dX11_right_80 : decode cX11_right 80 = .ok (.iload 7, 2) := by decide +kernel
theorem dX11_right_82 : decode cX11_right 82 = .ok (.ifCond .ne 6, 3) := by decide +kernel
theorem dX11_right_85 : decode cX11_right 85 = .ok (.iinc 4 1, 3) := by decide +kernel
theorem dX11_right_88 : decode cX11_right 88 = .ok (.iinc 6 1, 3) := by decide +kernel
theorem dX11_right_91 : decode cX11_right 91 = .ok (.goto (-54), 3) := by decide +kernel
theorem dX11_right_94 : decode cX11_right 94 = .ok (.aload_n 0, 1) := by decide +kernel
theorem dX11_right_95 : decode cX11_right 95 = .ok (.getfield 10, 3) := by decide +kernel
theorem dX11_right_98 : decode cX11_right 98 = .ok (.iload_n 2, 1) := by decide +kernel
theorem dX11_right_99 : decode cX11_right 99 = .ok (.invokevirtual 215, 3) := by decide +kernel
theorem dX11_right_102 : decode cX11_right 102 = .ok (.iload_n 1, 1) := by decide +kernel
theorem dX11_right_103 : decode cX11_right 103 = .ok (.ifCond .ne 8, 3) := by decide +kernel
theorem dX11_right_106 : decode cX11_right 106 = .ok (.iload 4, 2) := by decide +kernel
theorem dX11_right_108 : decode cX11_right 108 = .ok (.goto 5, 3) := by decide +kernel
theorem dX11_right_111 : decode cX11_right 111 = .ok (.iload 5, 2) := by decide +kernel
theorem dX11_right_113 : decode cX11_right 113 = .ok (.ireturn, 1) := by decide +kernel
theorem dX11_queues_0 : decode cX11_queues 0 = .ok (.iload_n 1, 1) := by decide +kernel
theorem dX11_queues_1 : decode cX11_queues 1 = .ok (.iconst (-1), 1) := by decide +kernel
theorem dX11_queues_2 : decode cX11_queues 2 = .ok (.if_icmp .ne 8, 3) := by decide +kernel
theorem dX11_queues_5 : decode cX11_queues 5 = .ok (.aload_n 0, 1) := by decide +kernel
theorem dX11_queues_6 : decode cX11_queues 6 = .ok (.invokevirtual 233, 3) := by decide +kernel
theorem dX11_queues_9 : decode cX11_queues 9 = .ok (.ireturn, 1) := by decide +kernel
theorem dX11_queues_10 : decode cX11_queues 10 = .ok (.aload_n 0, 1) := by decide +kernel
theorem dX11_queues_11 : decode cX11_queues 11 = .ok (.getfield 10, 3) := by decide +kernel
theorem dX11_queues_14 : decode cX11_queues 14 = .ok (.iload_n 1, 1) := by decide +kernel
theorem dX11_queues_15 : decode cX11_queues 15 = .ok (.invokevirtual 91, 3) := by decide +kernel
theorem dX11_queues_18 : decode cX11_queues 18 = .ok (.ifCond .eq 14, 3) := by decide +kernel
theorem dX11_queues_21 : decode cX11_queues 21 = .ok (.aload_n 0, 1) := by decide +kernel
theorem dX11_queues_22 : decode cX11_queues 22 = .ok (.getfield 10, 3) := by decide +kernel
theorem dX11_queues_25 : decode cX11_queues 25 = .ok (.iload_n 1, 1) := by decide +kernel
theorem dX11_queues_26 : decode cX11_queues 26 = .ok (.invokevirtual 236, 3) := by decide +kernel
theorem dX11_queues_29 : decode cX11_queues 29 = .ok (.goto 4, 3) := by decide +kernel
theorem dX11_queues_32 : decode cX11_queues 32 = .ok (.iconst (-1), 1) := by decide +kernel
theorem dX11_queues_33 : decode cX11_queues 33 = .ok (.ireturn, 1) := by decide +kernel
theorem dX11_countQueues_0 : decode cX11_countQueues 0 = .ok (.iconst 0, 1) := by decide +kernel
theorem dX11_countQueues_1 : decode cX11_countQueues 1 = .ok (.istore_n 1, 1) := by decide +kernel
theorem dX11_countQueues_2 : decode cX11_countQueues 2 = .ok (.iconst 0, 1) := by decide +kernel
theorem dX11_countQueues_3 : decode cX11_countQueues 3 = .ok (.istore_n 2, 1) := by decide +kernel
theorem dX11_countQueues_4 : decode cX11_countQueues 4 = .ok (.iconst 0, 1) := by decide +kernel
theorem dX11_countQueues_5 : decode cX11_countQueues 5 = .ok (.istore_n 3, 1) := by decide +kernel
theorem dX11_countQueues_6 : decode cX11_countQueues 6 = .ok (.iload_n 3, 1) := by decide +kernel
theorem dX11_countQueues_7 : decode cX11_countQueues 7 = .ok (.aload_n 0, 1) := by decide +kernel
theorem dX11_countQueues_8 : decode cX11_countQueues 8 = .ok (.getfield 10, 3) := by decide +kernel
theorem dX11_countQueues_11 : decode cX11_countQueues 11 = .ok (.getfield 83, 3) := by decide +kernel
theorem dX11_countQueues_14 : decode cX11_countQueues 14 = .ok (.if_icmp .ge 46, 3) := by decide +kernel
theorem dX11_countQueues_17 : decode cX11_countQueues 17 = .ok (.aload_n 0, 1) := by decide +kernel
theorem dX11_countQueues_18 : decode cX11_countQueues 18 = .ok (.getfield 10, 3) := by decide +kernel
theorem dX11_countQueues_21 : decode cX11_countQueues 21 = .ok (.getfield 106, 3) := by decide +kernel
theorem dX11_countQueues_24 : decode cX11_countQueues 24 = .ok (.iload_n 3, 1) := by decide +kernel
theorem dX11_countQueues_25 : decode cX11_countQueues 25 = .ok (.invokestatic 109, 3) := by decide +kernel
theorem dX11_countQueues_28 : decode cX11_countQueues 28 = .ok (.iconst 1, 1) := by decide +kernel
theorem dX11_countQueues_29 : decode cX11_countQueues 29 = .ok (.if_icmp .ne 25, 3) := by decide +kernel
theorem dX11_countQueues_32 : decode cX11_countQueues 32 = .ok (.iload_n 2, 1) := by decide +kernel
theorem dX11_countQueues_33 : decode cX11_countQueues 33 = .ok (.iload_n 3, 1) := by decide +kernel
theorem dX11_countQueues_34 : decode cX11_countQueues 34 = .ok (.invokestatic 109, 3) := by decide +kernel
theorem dX11_countQueues_37 : decode cX11_countQueues 37 = .ok (.ifCond .ne 17, 3) := by decide +kernel
theorem dX11_countQueues_40 : decode cX11_countQueues 40 = .ok (.iload_n 2, 1) := by decide +kernel
theorem dX11_countQueues_41 : decode cX11_countQueues 41 = .ok (.aload_n 0, 1) := by decide +kernel
theorem dX11_countQueues_42 : decode cX11_countQueues 42 = .ok (.getfield 10, 3) := by decide +kernel
theorem dX11_countQueues_45 : decode cX11_countQueues 45 = .ok (.iload_n 3, 1) := by decide +kernel
theorem dX11_countQueues_46 : decode cX11_countQueues 46 = .ok (.invokevirtual 236, 3) := by decide +kernel
theorem dX11_countQueues_49 : decode cX11_countQueues 49 = .ok (.ior, 1) := by decide +kernel
theorem dX11_countQueues_50 : decode cX11_countQueues 50 = .ok (.istore_n 2, 1) := by decide +kernel
theorem dX11_countQueues_51 : decode cX11_countQueues 51 = .ok (.iinc 1 1, 3) := by decide +kernel
theorem dX11_countQueues_54 : decode cX11_countQueues 54 = .ok (.iinc 3 1, 3) := by decide +kernel
theorem dX11_countQueues_57 : decode cX11_countQueues 57 = .ok (.goto (-51), 3) := by decide +kernel
theorem dX11_countQueues_60 : decode cX11_countQueues 60 = .ok (.iload_n 1, 1) := by decide +kernel
theorem dX11_countQueues_61 : decode cX11_countQueues 61 = .ok (.ireturn, 1) := by decide +kernel
theorem dX11_errands_0 : decode cX11_errands 0 = .ok (.iload_n 1, 1) := by decide +kernel
theorem dX11_errands_1 : decode cX11_errands 1 = .ok (.bipush 99, 2) := by decide +kernel
theorem dX11_errands_3 : decode cX11_errands 3 = .ok (.invokestatic 79, 3) := by decide +kernel
theorem dX11_errands_6 : decode cX11_errands 6 = .ok (.ifCond .eq 11, 3) := by decide +kernel
theorem dX11_errands_9 : decode cX11_errands 9 = .ok (.iload_n 2, 1) := by decide +kernel
theorem dX11_errands_10 : decode cX11_errands 10 = .ok (.iconst 1, 1) := by decide +kernel
theorem dX11_errands_11 : decode cX11_errands 11 = .ok (.invokestatic 79, 3) := by decide +kernel
theorem dX11_errands_14 : decode cX11_errands 14 = .ok (.ifCond .ne 5, 3) := by decide +kernel
theorem dX11_errands_17 : decode cX11_errands 17 = .ok (.iconst (-1), 1) := by decide +kernel
theorem dX11_errands_18 : decode cX11_errands 18 = .ok (.ireturn, 1) := by decide +kernel
theorem dX11_errands_19 : decode cX11_errands 19 = .ok (.aload_n 0, 1) := by decide +kernel
theorem dX11_errands_20 : decode cX11_errands 20 = .ok (.getfield 10, 3) := by decide +kernel
theorem dX11_errands_23 : decode cX11_errands 23 = .ok (.invokevirtual 239, 3) := by decide +kernel
theorem dX11_errands_26 : decode cX11_errands 26 = .ok (.aload_n 0, 1) := by decide +kernel
theorem dX11_errands_27 : decode cX11_errands 27 = .ok (.getfield 10, 3) := by decide +kernel
theorem dX11_errands_30 : decode cX11_errands 30 = .ok (.getfield 106, 3) := by decide +kernel
theorem dX11_errands_33 : decode cX11_errands 33 = .ok (.iconst (-1), 1) := by decide +kernel
theorem dX11_errands_34 : decode cX11_errands 34 = .ok (.ixor, 1) := by decide +kernel
theorem dX11_errands_35 : decode cX11_errands 35 = .ok (.iand, 1) := by decide +kernel
theorem dX11_errands_36 : decode cX11_errands 36 = .ok (.istore_n 3, 1) := by decide +kernel
theorem dX11_errands_37 : decode cX11_errands 37 = .ok (.aload_n 0, 1) := by decide +kernel
theorem dX11_errands_38 : decode cX11_errands 38 = .ok (.getfield 10, 3) := by decide +kernel
theorem dX11_errands_41 : decode cX11_errands 41 = .ok (.iload_n 1, 1) := by decide +kernel
theorem dX11_errands_42 : decode cX11_errands 42 = .ok (.iload_n 3, 1) := by decide +kernel
theorem dX11_errands_43 : decode cX11_errands 43 = .ok (.invokevirtual 242, 3) := by decide +kernel
theorem dX11_errands_46 : decode cX11_errands 46 = .ok (.istore 4, 2) := by decide +kernel
theorem dX11_errands_48 : decode cX11_errands 48 = .ok (.iload_n 2, 1) := by decide +kernel
theorem dX11_errands_49 : decode cX11_errands 49 = .ok (.ifCond .ne 8, 3) := by decide +kernel
theorem dX11_errands_52 : decode cX11_errands 52 = .ok (.iload 4, 2) := by decide +kernel
theorem dX11_errands_54 : decode cX11_errands 54 = .ok (.goto 11, 3) := by decide +kernel
theorem dX11_errands_57 : decode cX11_errands 57 = .ok (.aload_n 0, 1) := by decide +kernel
theorem dX11_errands_58 : decode cX11_errands 58 = .ok (.iload_n 1, 1) := by decide +kernel
theorem dX11_errands_59 : decode cX11_errands 59 = .ok (.iload_n 3, 1) := by decide +kernel
theorem dX11_errands_60 : decode cX11_errands 60 = .ok (.iload 4, 2) := by decide +kernel
theorem dX11_errands_62 : decode cX11_errands 62 = .ok (.invokevirtual 245, 3) := by decide +kernel
theorem dX11_errands_65 : decode cX11_errands 65 = .ok (.ireturn, 1) := by decide +kernel
theorem dX11_firstErrand_0 : decode cX11_firstErrand 0 = .ok (.iconst 0, 1) := by decide +kernel
theorem dX11_firstErrand_1 : decode cX11_firstErrand 1 = .ok (.istore 4, 2) := by decide +kernel
theorem dX11_firstErrand_3 : decode cX11_firstErrand 3 = .ok (.iload 4, 2) := by decide +kernel
theorem dX11_firstErrand_5 : decode cX11_firstErrand 5 = .ok (.aload_n 0, 1) := by decide +kernel
theorem dX11_firstErrand_6 : decode cX11_firstErrand 6 = .ok (.getfield 10, 3) := by decide +kernel
theorem dX11_firstErrand_9 : decode cX11_firstErrand 9 = .ok (.getfield 83, 3) := by decide +kernel
theorem dX11_firstErrand_12 : decode cX11_firstErrand 12 = .ok (.if_icmp .ge 55, 3) := by decide +kernel
theorem dX11_firstErrand_15 : decode cX11_firstErrand 15 = .ok (.iload_n 2, 1) := by decide +kernel
theorem dX11_firstErrand_16 : decode cX11_firstErrand 16 = .ok (.iload 4, 2) := by decide +kernel
theorem dX11_firstErrand_18 : decode cX11_firstErrand 18 = .ok (.invokestatic 109, 3) := by decide +kernel
theorem dX11_firstErrand_21 : decode cX11_firstErrand 21 = .ok (.iconst 1, 1) := by decide +kernel
theorem dX11_firstErrand_22 : decode cX11_firstErrand 22 = .ok (.if_icmp .ne 39, 3) := by decide +kernel
theorem dX11_firstErrand_25 : decode cX11_firstErrand 25 = .ok (.aload_n 0, 1) := by decide +kernel
theorem dX11_firstErrand_26 : decode cX11_firstErrand 26 = .ok (.getfield 10, 3) := by decide +kernel
theorem dX11_firstErrand_29 : decode cX11_firstErrand 29 = .ok (.iload 4, 2) := by decide +kernel
theorem dX11_firstErrand_31 : decode cX11_firstErrand 31 = .ok (.invokevirtual 248, 3) := by decide +kernel
theorem dX11_firstErrand_34 : decode cX11_firstErrand 34 = .ok (.istore 5, 2) := by decide +kernel
theorem dX11_firstErrand_36 : decode cX11_firstErrand 36 = .ok (.iload 5, 2) := by decide +kernel
theorem dX11_firstErrand_38 : decode cX11_firstErrand 38 = .ok (.iload_n 1, 1) := by decide +kernel
theorem dX11_firstErrand_39 : decode cX11_firstErrand 39 = .ok (.isub, 1) := by decide +kernel
theorem dX11_firstErrand_40 : decode cX11_firstErrand 40 = .ok (.invokestatic 228, 3) := by decide +kernel
theorem dX11_firstErrand_43 : decode cX11_firstErrand 43 = .ok (.aload_n 0, 1) := by decide +kernel
theorem dX11_firstErrand_44 : decode cX11_firstErrand 44 = .ok (.getfield 10, 3) := by decide +kernel
theorem dX11_firstErrand_47 : decode cX11_firstErrand 47 = .ok (.iload 5, 2) := by decide +kernel
theorem dX11_firstErrand_49 : decode cX11_firstErrand 49 = .ok (.iload_n 2, 1) := by decide +kernel
theorem dX11_firstErrand_50 : decode cX11_firstErrand 50 = .ok (.invokevirtual 242, 3) := by decide +kernel
theorem dX11_firstErrand_53 : decode cX11_firstErrand 53 = .ok (.iadd, 1) := by decide +kernel
theorem dX11_firstErrand_54 : decode cX11_firstErrand 54 = .ok (.iload_n 3, 1) := by decide +kernel
theorem dX11_firstErrand_55 : decode cX11_firstErrand 55 = .ok (.if_icmp .ne 6, 3) := by decide +kernel
theorem dX11_firstErrand_58 : decode cX11_firstErrand 58 = .ok (.iload 4, 2) := by decide +kernel
theorem dX11_firstErrand_60 : decode cX11_firstErrand 60 = .ok (.ireturn, 1) := by decide +kernel
theorem dX11_firstErrand_61 : decode cX11_firstErrand 61 = .ok (.iinc 4 1, 3) := by decide +kernel
theorem dX11_firstErrand_64 : decode cX11_firstErrand 64 = .ok (.goto (-61), 3) := by decide +kernel
theorem dX11_firstErrand_67 : decode cX11_firstErrand 67 = .ok (.bipush (-3), 2) := by decide +kernel
theorem dX11_firstErrand_69 : decode cX11_firstErrand 69 = .ok (.ireturn, 1) := by decide +kernel
theorem dX11_best_0 : decode cX11_best 0 = .ok (.iload_n 1, 1) := by decide +kernel
theorem dX11_best_1 : decode cX11_best 1 = .ok (.iconst 4, 1) := by decide +kernel
theorem dX11_best_2 : decode cX11_best 2 = .ok (.invokestatic 79, 3) := by decide +kernel
theorem dX11_best_5 : decode cX11_best 5 = .ok (.ifCond .eq 21, 3) := by decide +kernel
theorem dX11_best_8 : decode cX11_best 8 = .ok (.aload_n 0, 1) := by decide +kernel
theorem dX11_best_9 : decode cX11_best 9 = .ok (.getfield 24, 3) := by decide +kernel
theorem dX11_best_12 : decode cX11_best 12 = .ok (.aload_n 0, 1) := by decide +kernel
theorem dX11_best_13 : decode cX11_best 13 = .ok (.getfield 10, 3) := by decide +kernel
theorem dX11_best_16 : decode cX11_best 16 = .ok (.iload_n 1, 1) := by decide +kernel
theorem dX11_best_17 : decode cX11_best 17 = .ok (.invokevirtual 212, 3) := by decide +kernel
theorem dX11_best_20 : decode cX11_best 20 = .ok (.invokevirtual 251, 3) := by decide +kernel
theorem dX11_best_23 : decode cX11_best 23 = .ok (.goto 4, 3) := by decide +kernel
theorem dX11_best_26 : decode cX11_best 26 = .ok (.iconst (-1), 1) := by decide +kernel
theorem dX11_best_27 : decode cX11_best 27 = .ok (.ireturn, 1) := by decide +kernel
theorem dX11_ith_0 : decode cX11_ith 0 = .ok (.iload_n 1, 1) := by decide +kernel
theorem dX11_ith_1 : decode cX11_ith 1 = .ok (.iconst 4, 1) := by decide +kernel
theorem dX11_ith_2 : decode cX11_ith 2 = .ok (.invokestatic 79, 3) := by decide +kernel
theorem dX11_ith_5 : decode cX11_ith 5 = .ok (.ifCond .eq 11, 3) := by decide +kernel
theorem dX11_ith_8 : decode cX11_ith 8 = .ok (.iload_n 2, 1) := by decide +kernel
theorem dX11_ith_9 : decode cX11_ith 9 = .ok (.iconst 3, 1) := by decide +kernel
theorem dX11_ith_10 : decode cX11_ith 10 = .ok (.invokestatic 79, 3) := by decide +kernel
theorem dX11_ith_13 : decode cX11_ith 13 = .ok (.ifCond .ne 5, 3) := by decide +kernel
theorem dX11_ith_16 : decode cX11_ith 16 = .ok (.iconst (-1), 1) := by decide +kernel
theorem dX11_ith_17 : decode cX11_ith 17 = .ok (.ireturn, 1) := by decide +kernel
theorem dX11_ith_18 : decode cX11_ith 18 = .ok (.aload_n 0, 1) := by decide +kernel
theorem dX11_ith_19 : decode cX11_ith 19 = .ok (.getfield 10, 3) := by decide +kernel
theorem dX11_ith_22 : decode cX11_ith 22 = .ok (.iload_n 1, 1) := by decide +kernel
theorem dX11_ith_23 : decode cX11_ith 23 = .ok (.invokevirtual 212, 3) := by decide +kernel
theorem dX11_ith_26 : decode cX11_ith 26 = .ok (.istore_n 3, 1) := by decide +kernel
theorem dX11_ith_27 : decode cX11_ith 27 = .ok (.iload_n 2, 1) := by decide +kernel
theorem dX11_ith_28 : decode cX11_ith 28 = .ok (.iload_n 3, 1) := by decide +kernel
theorem dX11_ith_29 : decode cX11_ith 29 = .ok (.if_icmp .lt 6, 3) := by decide +kernel
theorem dX11_ith_32 : decode cX11_ith 32 = .ok (.bipush (-3), 2) := by decide +kernel
theorem dX11_ith_34 : decode cX11_ith 34 = .ok (.ireturn, 1) := by decide +kernel
theorem dX11_ith_35 : decode cX11_ith 35 = .ok (.aload_n 0, 1) := by decide +kernel
theorem dX11_ith_36 : decode cX11_ith 36 = .ok (.getfield 24, 3) := by decide +kernel
theorem dX11_ith_39 : decode cX11_ith 39 = .ok (.iload_n 3, 1) := by decide +kernel
theorem dX11_ith_40 : decode cX11_ith 40 = .ok (.invokevirtual 251, 3) := by decide +kernel
theorem dX11_ith_43 : decode cX11_ith 43 = .ok (.pop, 1) := by decide +kernel
theorem dX11_ith_44 : decode cX11_ith 44 = .ok (.aload_n 0, 1) := by decide +kernel
theorem dX11_ith_45 : decode cX11_ith 45 = .ok (.getfield 24, 3) := by decide +kernel
theorem dX11_ith_48 : decode cX11_ith 48 = .ok (.getfield 254, 3) := by decide +kernel
theorem dX11_ith_51 : decode cX11_ith 51 = .ok (.iload_n 3, 1) := by decide +kernel
theorem dX11_ith_52 : decode cX11_ith 52 = .ok (.aaload, 1) := by decide +kernel
theorem dX11_ith_53 : decode cX11_ith 53 = .ok (.iload_n 2, 1) := by decide +kernel
theorem dX11_ith_54 : decode cX11_ith 54 = .ok (.iaload, 1) := by decide +kernel
theorem dX11_ith_55 : decode cX11_ith 55 = .ok (.ireturn, 1) := by decide +kernel
theorem dX11_ways_0 : decode cX11_ways 0 = .ok (.iload_n 1, 1) := by decide +kernel
theorem dX11_ways_1 : decode cX11_ways 1 = .ok (.iconst 4, 1) := by decide +kernel
theorem dX11_ways_2 : decode cX11_ways 2 = .ok (.invokestatic 79, 3) := by decide +kernel
theorem dX11_ways_5 : decode cX11_ways 5 = .ok (.ifCond .ne 5, 3) := by decide +kernel
theorem dX11_ways_8 : decode cX11_ways 8 = .ok (.iconst (-1), 1) := by decide +kernel
theorem dX11_ways_9 : decode cX11_ways 9 = .ok (.ireturn, 1) := by decide +kernel
theorem dX11_ways_10 : decode cX11_ways 10 = .ok (.aload_n 0, 1) := by decide +kernel
theorem dX11_ways_11 : decode cX11_ways 11 = .ok (.getfield 10, 3) := by decide +kernel
theorem dX11_ways_14 : decode cX11_ways 14 = .ok (.iload_n 1, 1) := by decide +kernel
theorem dX11_ways_15 : decode cX11_ways 15 = .ok (.invokevirtual 212, 3) := by decide +kernel
theorem dX11_ways_18 : decode cX11_ways 18 = .ok (.istore_n 2, 1) := by decide +kernel
theorem dX11_ways_19 : decode cX11_ways 19 = .ok (.aload_n 0, 1) := by decide +kernel
theorem dX11_ways_20 : decode cX11_ways 20 = .ok (.getfield 24, 3) := by decide +kernel
theorem dX11_ways_23 : decode cX11_ways 23 = .ok (.iload_n 2, 1) := by decide +kernel
theorem dX11_ways_24 : decode cX11_ways 24 = .ok (.invokevirtual 251, 3) := by decide +kernel
theorem dX11_ways_27 : decode cX11_ways 27 = .ok (.pop, 1) := by decide +kernel
theorem dX11_ways_28 : decode cX11_ways 28 = .ok (.aload_n 0, 1) := by decide +kernel
theorem dX11_ways_29 : decode cX11_ways 29 = .ok (.getfield 24, 3) := by decide +kernel
theorem dX11_ways_32 : decode cX11_ways 32 = .ok (.getfield 258, 3) := by decide +kernel
theorem dX11_ways_35 : decode cX11_ways 35 = .ok (.iload_n 2, 1) := by decide +kernel
theorem dX11_ways_36 : decode cX11_ways 36 = .ok (.iaload, 1) := by decide +kernel
theorem dX11_ways_37 : decode cX11_ways 37 = .ok (.ireturn, 1) := by decide +kernel
theorem dX11_charter_0 : decode cX11_charter 0 = .ok (.iload_n 1, 1) := by decide +kernel
theorem dX11_charter_1 : decode cX11_charter 1 = .ok (.iconst 4, 1) := by decide +kernel
theorem dX11_charter_2 : decode cX11_charter 2 = .ok (.invokestatic 79, 3) := by decide +kernel
theorem dX11_charter_5 : decode cX11_charter 5 = .ok (.ifCond .eq 17, 3) := by decide +kernel
theorem dX11_charter_8 : decode cX11_charter 8 = .ok (.iload_n 2, 1) := by decide +kernel
theorem dX11_charter_9 : decode cX11_charter 9 = .ok (.aload_n 0, 1) := by decide +kernel
theorem dX11_charter_10 : decode cX11_charter 10 = .ok (.getfield 10, 3) := by decide +kernel
theorem dX11_charter_13 : decode cX11_charter 13 = .ok (.invokevirtual 239, 3) := by decide +kernel
theorem dX11_charter_16 : decode cX11_charter 16 = .ok (.invokestatic 79, 3) := by decide +kernel
theorem dX11_charter_19 : decode cX11_charter 19 = .ok (.ifCond .ne 5, 3) := by decide +kernel
theorem dX11_charter_22 : decode cX11_charter 22 = .ok (.iconst (-1), 1) := by decide +kernel
theorem dX11_charter_23 : decode cX11_charter 23 = .ok (.ireturn, 1) := by decide +kernel
theorem dX11_charter_24 : decode cX11_charter 24 = .ok (.aload_n 0, 1) := by decide +kernel
theorem dX11_charter_25 : decode cX11_charter 25 = .ok (.getfield 24, 3) := by decide +kernel
theorem dX11_charter_28 : decode cX11_charter 28 = .ok (.aload_n 0, 1) := by decide +kernel
theorem dX11_charter_29 : decode cX11_charter 29 = .ok (.getfield 10, 3) := by decide +kernel
theorem dX11_charter_32 : decode cX11_charter 32 = .ok (.iload_n 1, 1) := by decide +kernel
theorem dX11_charter_33 : decode cX11_charter 33 = .ok (.invokevirtual 212, 3) := by decide +kernel
theorem dX11_charter_36 : decode cX11_charter 36 = .ok (.iload_n 2, 1) := by decide +kernel
theorem dX11_charter_37 : decode cX11_charter 37 = .ok (.invokevirtual 261, 3) := by decide +kernel
theorem dX11_charter_40 : decode cX11_charter 40 = .ok (.istore_n 3, 1) := by decide +kernel
theorem dX11_charter_41 : decode cX11_charter 41 = .ok (.iload_n 3, 1) := by decide +kernel
theorem dX11_charter_42 : decode cX11_charter 42 = .ok (.iconst 4, 1) := by decide +kernel
theorem dX11_charter_43 : decode cX11_charter 43 = .ok (.if_icmp .le 8, 3) := by decide +kernel
theorem dX11_charter_46 : decode cX11_charter 46 = .ok (.bipush (-3), 2) := by decide +kernel
theorem dX11_charter_48 : decode cX11_charter 48 = .ok (.goto 4, 3) := by decide +kernel
theorem dX11_charter_51 : decode cX11_charter 51 = .ok (.iload_n 3, 1) := by decide +kernel
theorem dX11_charter_52 : decode cX11_charter 52 = .ok (.ireturn, 1) := by decide +kernel
theorem dX11_bars_0 : decode cX11_bars 0 = .ok (.iload_n 1, 1) := by decide +kernel
theorem dX11_bars_1 : decode cX11_bars 1 = .ok (.iconst 4, 1) := by decide +kernel
theorem dX11_bars_2 : decode cX11_bars 2 = .ok (.invokestatic 79, 3) := by decide +kernel
theorem dX11_bars_5 : decode cX11_bars 5 = .ok (.ifCond .eq 17, 3) := by decide +kernel
theorem dX11_bars_8 : decode cX11_bars 8 = .ok (.iload_n 2, 1) := by decide +kernel
theorem dX11_bars_9 : decode cX11_bars 9 = .ok (.aload_n 0, 1) := by decide +kernel
theorem dX11_bars_10 : decode cX11_bars 10 = .ok (.getfield 10, 3) := by decide +kernel
theorem dX11_bars_13 : decode cX11_bars 13 = .ok (.invokevirtual 239, 3) := by decide +kernel
theorem dX11_bars_16 : decode cX11_bars 16 = .ok (.invokestatic 79, 3) := by decide +kernel
theorem dX11_bars_19 : decode cX11_bars 19 = .ok (.ifCond .ne 5, 3) := by decide +kernel
theorem dX11_bars_22 : decode cX11_bars 22 = .ok (.iconst (-1), 1) := by decide +kernel
theorem dX11_bars_23 : decode cX11_bars 23 = .ok (.ireturn, 1) := by decide +kernel
theorem dX11_bars_24 : decode cX11_bars 24 = .ok (.iload_n 2, 1) := by decide +kernel
theorem dX11_bars_25 : decode cX11_bars 25 = .ok (.aload_n 0, 1) := by decide +kernel
theorem dX11_bars_26 : decode cX11_bars 26 = .ok (.getfield 24, 3) := by decide +kernel
theorem dX11_bars_29 : decode cX11_bars 29 = .ok (.aload_n 0, 1) := by decide +kernel
theorem dX11_bars_30 : decode cX11_bars 30 = .ok (.getfield 10, 3) := by decide +kernel
theorem dX11_bars_33 : decode cX11_bars 33 = .ok (.iload_n 1, 1) := by decide +kernel
theorem dX11_bars_34 : decode cX11_bars 34 = .ok (.invokevirtual 212, 3) := by decide +kernel
theorem dX11_bars_37 : decode cX11_bars 37 = .ok (.invokevirtual 264, 3) := by decide +kernel
theorem dX11_bars_40 : decode cX11_bars 40 = .ok (.iconst (-1), 1) := by decide +kernel
theorem dX11_bars_41 : decode cX11_bars 41 = .ok (.ixor, 1) := by decide +kernel
theorem dX11_bars_42 : decode cX11_bars 42 = .ok (.iand, 1) := by decide +kernel
theorem dX11_bars_43 : decode cX11_bars 43 = .ok (.istore_n 3, 1) := by decide +kernel
theorem dX11_bars_44 : decode cX11_bars 44 = .ok (.iload_n 3, 1) := by decide +kernel
theorem dX11_bars_45 : decode cX11_bars 45 = .ok (.ifCond .ne 8, 3) := by decide +kernel
theorem dX11_bars_48 : decode cX11_bars 48 = .ok (.bipush (-3), 2) := by decide +kernel
theorem dX11_bars_50 : decode cX11_bars 50 = .ok (.goto 7, 3) := by decide +kernel
theorem dX11_bars_53 : decode cX11_bars 53 = .ok (.iload_n 3, 1) := by decide +kernel
theorem dX11_bars_54 : decode cX11_bars 54 = .ok (.invokestatic 267, 3) := by decide +kernel
theorem dX11_bars_57 : decode cX11_bars 57 = .ok (.ireturn, 1) := by decide +kernel
theorem dX11_game_0 : decode cX11_game 0 = .ok (.iload_n 1, 1) := by decide +kernel
theorem dX11_game_1 : decode cX11_game 1 = .ok (.iconst 1, 1) := by decide +kernel
theorem dX11_game_2 : decode cX11_game 2 = .ok (.if_icmp .lt 8, 3) := by decide +kernel
theorem dX11_game_5 : decode cX11_game 5 = .ok (.iload_n 1, 1) := by decide +kernel
theorem dX11_game_6 : decode cX11_game 6 = .ok (.iconst 4, 1) := by decide +kernel
theorem dX11_game_7 : decode cX11_game 7 = .ok (.if_icmp .le 7, 3) := by decide +kernel
theorem dX11_game_10 : decode cX11_game 10 = .ok (.iconst (-1), 1) := by decide +kernel
theorem dX11_game_11 : decode cX11_game 11 = .ok (.goto 19, 3) := by decide +kernel
theorem dX11_game_14 : decode cX11_game 14 = .ok (.aload_n 0, 1) := by decide +kernel
theorem dX11_game_15 : decode cX11_game 15 = .ok (.getfield 24, 3) := by decide +kernel
theorem dX11_game_18 : decode cX11_game 18 = .ok (.aload_n 0, 1) := by decide +kernel
theorem dX11_game_19 : decode cX11_game 19 = .ok (.getfield 10, 3) := by decide +kernel
theorem dX11_game_22 : decode cX11_game 22 = .ok (.iload_n 1, 1) := by decide +kernel
theorem dX11_game_23 : decode cX11_game 23 = .ok (.invokevirtual 212, 3) := by decide +kernel
theorem dX11_game_26 : decode cX11_game 26 = .ok (.iconst 1, 1) := by decide +kernel
theorem dX11_game_27 : decode cX11_game 27 = .ok (.invokevirtual 272, 3) := by decide +kernel
theorem dX11_game_30 : decode cX11_game 30 = .ok (.ireturn, 1) := by decide +kernel
theorem dX11_play_0 : decode cX11_play 0 = .ok (.iload_n 1, 1) := by decide +kernel
theorem dX11_play_1 : decode cX11_play 1 = .ok (.iconst 1, 1) := by decide +kernel
theorem dX11_play_2 : decode cX11_play 2 = .ok (.if_icmp .lt 8, 3) := by decide +kernel
theorem dX11_play_5 : decode cX11_play 5 = .ok (.iload_n 1, 1) := by decide +kernel
theorem dX11_play_6 : decode cX11_play 6 = .ok (.iconst 4, 1) := by decide +kernel
theorem dX11_play_7 : decode cX11_play 7 = .ok (.if_icmp .le 5, 3) := by decide +kernel
theorem dX11_play_10 : decode cX11_play 10 = .ok (.iconst (-1), 1) := by decide +kernel
theorem dX11_play_11 : decode cX11_play 11 = .ok (.ireturn, 1) := by decide +kernel
theorem dX11_play_12 : decode cX11_play 12 = .ok (.aload_n 0, 1) := by decide +kernel
theorem dX11_play_13 : decode cX11_play 13 = .ok (.getfield 10, 3) := by decide +kernel
theorem dX11_play_16 : decode cX11_play 16 = .ok (.invokevirtual 170, 3) := by decide +kernel
theorem dX11_play_19 : decode cX11_play 19 = .ok (.ifCond .eq 6, 3) := by decide +kernel
theorem dX11_play_22 : decode cX11_play 22 = .ok (.bipush (-3), 2) := by decide +kernel
theorem dX11_play_24 : decode cX11_play 24 = .ok (.ireturn, 1) := by decide +kernel
theorem dX11_play_25 : decode cX11_play 25 = .ok (.aload_n 0, 1) := by decide +kernel
theorem dX11_play_26 : decode cX11_play 26 = .ok (.getfield 10, 3) := by decide +kernel
theorem dX11_play_29 : decode cX11_play 29 = .ok (.iload_n 1, 1) := by decide +kernel
theorem dX11_play_30 : decode cX11_play 30 = .ok (.invokevirtual 212, 3) := by decide +kernel
theorem dX11_play_33 : decode cX11_play 33 = .ok (.istore_n 2, 1) := by decide +kernel
theorem dX11_play_34 : decode cX11_play 34 = .ok (.aload_n 0, 1) := by decide +kernel
theorem dX11_play_35 : decode cX11_play 35 = .ok (.getfield 24, 3) := by decide +kernel
theorem dX11_play_38 : decode cX11_play 38 = .ok (.iload_n 2, 1) := by decide +kernel
theorem dX11_play_39 : decode cX11_play 39 = .ok (.iconst 1, 1) := by decide +kernel
theorem dX11_play_40 : decode cX11_play 40 = .ok (.invokevirtual 272, 3) := by decide +kernel
theorem dX11_play_43 : decode cX11_play 43 = .ok (.pop, 1) := by decide +kernel
theorem dX11_play_44 : decode cX11_play 44 = .ok (.aload_n 0, 1) := by decide +kernel
theorem dX11_play_45 : decode cX11_play 45 = .ok (.getfield 24, 3) := by decide +kernel
theorem dX11_play_48 : decode cX11_play 48 = .ok (.getfield 254, 3) := by decide +kernel
theorem dX11_play_51 : decode cX11_play 51 = .ok (.iload_n 2, 1) := by decide +kernel
theorem dX11_play_52 : decode cX11_play 52 = .ok (.aaload, 1) := by decide +kernel
theorem dX11_play_53 : decode cX11_play 53 = .ok (.iconst 0, 1) := by decide +kernel
theorem dX11_play_54 : decode cX11_play 54 = .ok (.iaload, 1) := by decide +kernel
theorem dX11_play_55 : decode cX11_play 55 = .ok (.ireturn, 1) := by decide +kernel
theorem dX11_report_0 : decode cX11_report 0 = .ok (.iload_n 1, 1) := by decide +kernel
theorem dX11_report_1 : decode cX11_report 1 = .ok (.bipush 15, 2) := by decide +kernel
theorem dX11_report_3 : decode cX11_report 3 = .ok (.invokestatic 79, 3) := by decide +kernel
theorem dX11_report_6 : decode cX11_report 6 = .ok (.ifCond .eq 21, 3) := by decide +kernel
theorem dX11_report_9 : decode cX11_report 9 = .ok (.iload_n 2, 1) := by decide +kernel
theorem dX11_report_10 : decode cX11_report 10 = .ok (.iconst 1, 1) := by decide +kernel
theorem dX11_report_11 : decode cX11_report 11 = .ok (.invokestatic 79, 3) := by decide +kernel
theorem dX11_report_14 : decode cX11_report 14 = .ok (.ifCond .eq 13, 3) := by decide +kernel
theorem dX11_report_17 : decode cX11_report 17 = .ok (.iload_n 3, 1) := by decide +kernel
theorem dX11_report_18 : decode cX11_report 18 = .ok (.ifCond .lt 9, 3) := by decide +kernel
theorem dX11_report_21 : decode cX11_report 21 = .ok (.iload 4, 2) := by decide +kernel
theorem dX11_report_23 : decode cX11_report 23 = .ok (.iload_n 3, 1) := by decide +kernel
theorem dX11_report_24 : decode cX11_report 24 = .ok (.if_icmp .ge 5, 3) := by decide +kernel
theorem dX11_report_27 : decode cX11_report 27 = .ok (.iconst (-1), 1) := by decide +kernel
theorem dX11_report_28 : decode cX11_report 28 = .ok (.ireturn, 1) := by decide +kernel
theorem dX11_report_29 : decode cX11_report 29 = .ok (.iload 4, 2) := by decide +kernel
theorem dX11_report_31 : decode cX11_report 31 = .ok (.iload_n 2, 1) := by decide +kernel
theorem dX11_report_32 : decode cX11_report 32 = .ok (.ifCond .ne 8, 3) := by decide +kernel
theorem dX11_report_35 : decode cX11_report 35 = .ok (.bipush 99, 2) := by decide +kernel
theorem dX11_report_37 : decode cX11_report 37 = .ok (.goto 5, 3) := by decide +kernel
theorem dX11_report_40 : decode cX11_report 40 = .ok (.bipush 9, 2) := by decide +kernel
theorem dX11_report_42 : decode cX11_report 42 = .ok (.if_icmp .le 5, 3) := by decide +kernel
theorem dX11_report_45 : decode cX11_report 45 = .ok (.iconst (-1), 1) := by decide +kernel
theorem dX11_report_46 : decode cX11_report 46 = .ok (.ireturn, 1) := by decide +kernel
theorem dX11_report_47 : decode cX11_report 47 = .ok (.aload_n 0, 1) := by decide +kernel
theorem dX11_report_48 : decode cX11_report 48 = .ok (.getfield 10, 3) := by decide +kernel
theorem dX11_report_51 : decode cX11_report 51 = .ok (.getfield 276, 3) := by decide +kernel
theorem dX11_report_54 : decode cX11_report 54 = .ok (.bipush 6, 2) := by decide +kernel
theorem dX11_report_56 : decode cX11_report 56 = .ok (.if_icmp .lt 6, 3) := by decide +kernel
theorem dX11_report_59 : decode cX11_report 59 = .ok (.bipush (-2), 2) := by decide +kernel
theorem dX11_report_61 : decode cX11_report 61 = .ok (.ireturn, 1) := by decide +kernel
theorem dX11_report_62 : decode cX11_report 62 = .ok (.aload_n 0, 1) := by decide +kernel
theorem dX11_report_63 : decode cX11_report 63 = .ok (.getfield 10, 3) := by decide +kernel
theorem dX11_report_66 : decode cX11_report 66 = .ok (.iload_n 1, 1) := by decide +kernel
theorem dX11_report_67 : decode cX11_report 67 = .ok (.iload_n 2, 1) := by decide +kernel
theorem dX11_report_68 : decode cX11_report 68 = .ok (.iload_n 3, 1) := by decide +kernel
theorem dX11_report_69 : decode cX11_report 69 = .ok (.iload 4, 2) := by decide +kernel
theorem dX11_report_71 : decode cX11_report 71 = .ok (.invokevirtual 279, 3) := by decide +kernel
theorem dX11_report_74 : decode cX11_report 74 = .ok (.ireturn, 1) := by decide +kernel
theorem dX11_forget_0 : decode cX11_forget 0 = .ok (.aload_n 0, 1) := by decide +kernel
theorem dX11_forget_1 : decode cX11_forget 1 = .ok (.getfield 10, 3) := by decide +kernel
theorem dX11_forget_4 : decode cX11_forget 4 = .ok (.getfield 276, 3) := by decide +kernel
theorem dX11_forget_7 : decode cX11_forget 7 = .ok (.istore_n 1, 1) := by decide +kernel
theorem dX11_forget_8 : decode cX11_forget 8 = .ok (.aload_n 0, 1) := by decide +kernel
theorem dX11_forget_9 : decode cX11_forget 9 = .ok (.getfield 10, 3) := by decide +kernel
theorem dX11_forget_12 : decode cX11_forget 12 = .ok (.iconst 0, 1) := by decide +kernel
theorem dX11_forget_13 : decode cX11_forget 13 = .ok (.putfield 276, 3) := by decide +kernel
theorem dX11_forget_16 : decode cX11_forget 16 = .ok (.iload_n 1, 1) := by decide +kernel
theorem dX11_forget_17 : decode cX11_forget 17 = .ok (.ireturn, 1) := by decide +kernel
theorem dX11_cause_0 : decode cX11_cause 0 = .ok (.iload_n 1, 1) := by decide +kernel
theorem dX11_cause_1 : decode cX11_cause 1 = .ok (.iconst 3, 1) := by decide +kernel
theorem dX11_cause_2 : decode cX11_cause 2 = .ok (.invokestatic 79, 3) := by decide +kernel
theorem dX11_cause_5 : decode cX11_cause 5 = .ok (.ifCond .ne 5, 3) := by decide +kernel
theorem dX11_cause_8 : decode cX11_cause 8 = .ok (.iconst (-1), 1) := by decide +kernel
theorem dX11_cause_9 : decode cX11_cause 9 = .ok (.ireturn, 1) := by decide +kernel
theorem dX11_cause_10 : decode cX11_cause 10 = .ok (.iconst 0, 1) := by decide +kernel
theorem dX11_cause_11 : decode cX11_cause 11 = .ok (.istore_n 2, 1) := by decide +kernel
theorem dX11_cause_12 : decode cX11_cause 12 = .ok (.bipush (-3), 2) := by decide +kernel
theorem dX11_cause_14 : decode cX11_cause 14 = .ok (.istore_n 3, 1) := by decide +kernel
theorem dX11_cause_15 : decode cX11_cause 15 = .ok (.iconst 0, 1) := by decide +kernel
theorem dX11_cause_16 : decode cX11_cause 16 = .ok (.istore 4, 2) := by decide +kernel
theorem dX11_cause_18 : decode cX11_cause 18 = .ok (.iload 4, 2) := by decide +kernel
theorem dX11_cause_20 : decode cX11_cause 20 = .ok (.sipush 500, 3) := by decide +kernel
theorem dX11_cause_23 : decode cX11_cause 23 = .ok (.if_icmp .ge 40, 3) := by decide +kernel
theorem dX11_cause_26 : decode cX11_cause 26 = .ok (.aload_n 0, 1) := by decide +kernel
theorem dX11_cause_27 : decode cX11_cause 27 = .ok (.getfield 10, 3) := by decide +kernel
theorem dX11_cause_30 : decode cX11_cause 30 = .ok (.iload 4, 2) := by decide +kernel
theorem dX11_cause_32 : decode cX11_cause 32 = .ok (.invokevirtual 282, 3) := by decide +kernel
theorem dX11_cause_35 : decode cX11_cause 35 = .ok (.ifCond .ne 22, 3) := by decide +kernel
theorem dX11_cause_38 : decode cX11_cause 38 = .ok (.iinc 2 1, 3) := by decide +kernel
theorem dX11_cause_41 : decode cX11_cause 41 = .ok (.iload_n 3, 1) := by decide +kernel
theorem dX11_cause_42 : decode cX11_cause 42 = .ok (.bipush (-3), 2) := by decide +kernel
theorem dX11_cause_44 : decode cX11_cause 44 = .ok (.if_icmp .ne 6, 3) := by decide +kernel
theorem dX11_cause_47 : decode cX11_cause 47 = .ok (.iload 4, 2) := by decide +kernel
theorem dX11_cause_49 : decode cX11_cause 49 = .ok (.istore_n 3, 1) := by decide +kernel
theorem dX11_cause_50 : decode cX11_cause 50 = .ok (.iload_n 1, 1) := by decide +kernel
theorem dX11_cause_51 : decode cX11_cause 51 = .ok (.ifCond .eq 6, 3) := by decide +kernel
theorem dX11_cause_54 : decode cX11_cause 54 = .ok (.goto 9, 3) := by decide +kernel
theorem dX11_cause_57 : decode cX11_cause 57 = .ok (.iinc 4 1, 3) := by decide +kernel
theorem dX11_cause_60 : decode cX11_cause 60 = .ok (.goto (-42), 3) := by decide +kernel
theorem dX11_cause_63 : decode cX11_cause 63 = .ok (.iload_n 1, 1) := by decide +kernel
theorem dX11_cause_64 : decode cX11_cause 64 = .ok (.ifCond .ne 5, 3) := by decide +kernel
theorem dX11_cause_67 : decode cX11_cause 67 = .ok (.iload_n 2, 1) := by decide +kernel
theorem dX11_cause_68 : decode cX11_cause 68 = .ok (.ireturn, 1) := by decide +kernel
theorem dX11_cause_69 : decode cX11_cause 69 = .ok (.iload_n 3, 1) := by decide +kernel
theorem dX11_cause_70 : decode cX11_cause 70 = .ok (.bipush (-3), 2) := by decide +kernel
theorem dX11_cause_72 : decode cX11_cause 72 = .ok (.if_icmp .ne 8, 3) := by decide +kernel
theorem dX11_cause_75 : decode cX11_cause 75 = .ok (.bipush (-3), 2) := by decide +kernel
theorem dX11_cause_77 : decode cX11_cause 77 = .ok (.goto 8, 3) := by decide +kernel
theorem dX11_cause_80 : decode cX11_cause 80 = .ok (.iload_n 3, 1) := by decide +kernel
theorem dX11_cause_81 : decode cX11_cause 81 = .ok (.iload_n 1, 1) := by decide +kernel
theorem dX11_cause_82 : decode cX11_cause 82 = .ok (.invokestatic 285, 3) := by decide +kernel
theorem dX11_cause_85 : decode cX11_cause 85 = .ok (.ireturn, 1) := by decide +kernel
theorem dX11_partOfStranger_0 : decode cX11_partOfStranger 0 = .ok (.iload_n 1, 1) := by decide +kernel
theorem dX11_partOfStranger_1 : decode cX11_partOfStranger 1 = .ok (.lookupswitch 37 #[(1, 27), (2, 32)], 27) := by decide +kernel
theorem dX11_partOfStranger_28 : decode cX11_partOfStranger 28 = .ok (.iload_n 0, 1) := by decide +kernel
theorem dX11_partOfStranger_29 : decode cX11_partOfStranger 29 = .ok (.invokestatic 288, 3) := by decide +kernel
theorem dX11_partOfStranger_32 : decode cX11_partOfStranger 32 = .ok (.ireturn, 1) := by decide +kernel
theorem dX11_partOfStranger_33 : decode cX11_partOfStranger 33 = .ok (.iload_n 0, 1) := by decide +kernel
theorem dX11_partOfStranger_34 : decode cX11_partOfStranger 34 = .ok (.invokestatic 291, 3) := by decide +kernel
theorem dX11_partOfStranger_37 : decode cX11_partOfStranger 37 = .ok (.ireturn, 1) := by decide +kernel
theorem dX11_partOfStranger_38 : decode cX11_partOfStranger 38 = .ok (.iload_n 0, 1) := by decide +kernel
theorem dX11_partOfStranger_39 : decode cX11_partOfStranger 39 = .ok (.invokestatic 294, 3) := by decide +kernel
theorem dX11_partOfStranger_42 : decode cX11_partOfStranger 42 = .ok (.ireturn, 1) := by decide +kernel
theorem dX11_liar_0 : decode cX11_liar 0 = .ok (.iconst 0, 1) := by decide +kernel
theorem dX11_liar_1 : decode cX11_liar 1 = .ok (.istore_n 1, 1) := by decide +kernel
theorem dX11_liar_2 : decode cX11_liar 2 = .ok (.iconst 0, 1) := by decide +kernel
theorem dX11_liar_3 : decode cX11_liar 3 = .ok (.istore_n 2, 1) := by decide +kernel
theorem dX11_liar_4 : decode cX11_liar 4 = .ok (.iload_n 2, 1) := by decide +kernel
theorem dX11_liar_5 : decode cX11_liar 5 = .ok (.sipush 500, 3) := by decide +kernel
theorem dX11_liar_8 : decode cX11_liar 8 = .ok (.if_icmp .ge 37, 3) := by decide +kernel
theorem dX11_liar_11 : decode cX11_liar 11 = .ok (.aload_n 0, 1) := by decide +kernel
theorem dX11_liar_12 : decode cX11_liar 12 = .ok (.getfield 10, 3) := by decide +kernel
theorem dX11_liar_15 : decode cX11_liar 15 = .ok (.iload_n 2, 1) := by decide +kernel
theorem dX11_liar_16 : decode cX11_liar 16 = .ok (.invokevirtual 282, 3) := by decide +kernel
theorem dX11_liar_19 : decode cX11_liar 19 = .ok (.istore_n 3, 1) := by decide +kernel
theorem dX11_liar_20 : decode cX11_liar 20 = .ok (.iload_n 3, 1) := by decide +kernel
theorem dX11_liar_21 : decode cX11_liar 21 = .ok (.ifCond .ne 6, 3) := by decide +kernel
theorem dX11_liar_24 : decode cX11_liar 24 = .ok (.bipush (-3), 2) := by decide +kernel
theorem dX11_liar_26 : decode cX11_liar 26 = .ok (.ireturn, 1) := by decide +kernel
theorem dX11_liar_27 : decode cX11_liar 27 = .ok (.iload_n 3, 1) := by decide +kernel
theorem dX11_liar_28 : decode cX11_liar 28 = .ok (.invokestatic 297, 3) := by decide +kernel
theorem dX11_liar_31 : decode cX11_liar 31 = .ok (.iconst 1, 1) := by decide +kernel
theorem dX11_liar_32 : decode cX11_liar 32 = .ok (.if_icmp .ne 7, 3) := by decide +kernel
theorem dX11_liar_35 : decode cX11_liar 35 = .ok (.iload_n 1, 1) := by decide +kernel
theorem dX11_liar_36 : decode cX11_liar 36 = .ok (.iload_n 3, 1) := by decide +kernel
theorem dX11_liar_37 : decode cX11_liar 37 = .ok (.ior, 1) := by decide +kernel
theorem dX11_liar_38 : decode cX11_liar 38 = .ok (.istore_n 1, 1) := by decide +kernel
theorem dX11_liar_39 : decode cX11_liar 39 = .ok (.iinc 2 1, 3) := by decide +kernel
theorem dX11_liar_42 : decode cX11_liar 42 = .ok (.goto (-38), 3) := by decide +kernel
theorem dX11_liar_45 : decode cX11_liar 45 = .ok (.iload_n 1, 1) := by decide +kernel
theorem dX11_liar_46 : decode cX11_liar 46 = .ok (.ifCond .ne 8, 3) := by decide +kernel
theorem dX11_liar_49 : decode cX11_liar 49 = .ok (.bipush (-3), 2) := by decide +kernel
theorem dX11_liar_51 : decode cX11_liar 51 = .ok (.goto 7, 3) := by decide +kernel
theorem dX11_liar_54 : decode cX11_liar 54 = .ok (.iload_n 1, 1) := by decide +kernel
theorem dX11_liar_55 : decode cX11_liar 55 = .ok (.invokestatic 267, 3) := by decide +kernel
theorem dX11_liar_58 : decode cX11_liar 58 = .ok (.ireturn, 1) := by decide +kernel
theorem dX11_seed_0 : decode cX11_seed 0 = .ok (.aload_n 0, 1) := by decide +kernel
theorem dX11_seed_1 : decode cX11_seed 1 = .ok (.getfield 10, 3) := by decide +kernel
theorem dX11_seed_4 : decode cX11_seed 4 = .ok (.getfield 300, 3) := by decide +kernel
theorem dX11_seed_7 : decode cX11_seed 7 = .ok (.istore_n 2, 1) := by decide +kernel
theorem dX11_seed_8 : decode cX11_seed 8 = .ok (.aload_n 0, 1) := by decide +kernel
theorem dX11_seed_9 : decode cX11_seed 9 = .ok (.getfield 10, 3) := by decide +kernel
theorem dX11_seed_12 : decode cX11_seed 12 = .ok (.iload_n 1, 1) := by decide +kernel
theorem dX11_seed_13 : decode cX11_seed 13 = .ok (.putfield 300, 3) := by decide +kernel
theorem dX11_seed_16 : decode cX11_seed 16 = .ok (.iload_n 2, 1) := by decide +kernel
theorem dX11_seed_17 : decode cX11_seed 17 = .ok (.ireturn, 1) := by decide +kernel
theorem dX11_lot_0 : decode cX11_lot 0 = .ok (.aload_n 0, 1) := by decide +kernel
theorem dX11_lot_1 : decode cX11_lot 1 = .ok (.getfield 10, 3) := by decide +kernel
theorem dX11_lot_4 : decode cX11_lot 4 = .ok (.invokevirtual 170, 3) := by decide +kernel
theorem dX11_lot_7 : decode cX11_lot 7 = .ok (.ifCond .eq 6, 3) := by decide +kernel
theorem dX11_lot_10 : decode cX11_lot 10 = .ok (.bipush (-4), 2) := by decide +kernel
theorem dX11_lot_12 : decode cX11_lot 12 = .ok (.ireturn, 1) := by decide +kernel
theorem dX11_lot_13 : decode cX11_lot 13 = .ok (.aload_n 0, 1) := by decide +kernel
theorem dX11_lot_14 : decode cX11_lot 14 = .ok (.aload_n 0, 1) := by decide +kernel
theorem dX11_lot_15 : decode cX11_lot 15 = .ok (.getfield 10, 3) := by decide +kernel
theorem dX11_lot_18 : decode cX11_lot 18 = .ok (.invokevirtual 303, 3) := by decide +kernel
theorem dX11_lot_21 : decode cX11_lot 21 = .ok (.invokevirtual 206, 3) := by decide +kernel
theorem dX11_lot_24 : decode cX11_lot 24 = .ok (.ireturn, 1) := by decide +kernel
theorem dX11_times_0 : decode cX11_times 0 = .ok (.iload_n 1, 1) := by decide +kernel
theorem dX11_times_1 : decode cX11_times 1 = .ok (.iconst 1, 1) := by decide +kernel
theorem dX11_times_2 : decode cX11_times 2 = .ok (.if_icmp .lt 19, 3) := by decide +kernel
theorem dX11_times_5 : decode cX11_times 5 = .ok (.iload_n 1, 1) := by decide +kernel
theorem dX11_times_6 : decode cX11_times 6 = .ok (.bipush 40, 2) := by decide +kernel
theorem dX11_times_8 : decode cX11_times 8 = .ok (.if_icmp .gt 13, 3) := by decide +kernel
theorem dX11_times_11 : decode cX11_times 11 = .ok (.iload_n 2, 1) := by decide +kernel
theorem dX11_times_12 : decode cX11_times 12 = .ok (.sipush 999, 3) := by decide +kernel
theorem dX11_times_15 : decode cX11_times 15 = .ok (.invokestatic 79, 3) := by decide +kernel
theorem dX11_times_18 : decode cX11_times 18 = .ok (.ifCond .ne 5, 3) := by decide +kernel
theorem dX11_times_21 : decode cX11_times 21 = .ok (.iconst (-1), 1) := by decide +kernel
theorem dX11_times_22 : decode cX11_times 22 = .ok (.ireturn, 1) := by decide +kernel
theorem dX11_times_23 : decode cX11_times 23 = .ok (.aload_n 0, 1) := by decide +kernel
theorem dX11_times_24 : decode cX11_times 24 = .ok (.getfield 10, 3) := by decide +kernel
theorem dX11_times_27 : decode cX11_times 27 = .ok (.invokevirtual 209, 3) := by decide +kernel
theorem dX11_times_30 : decode cX11_times 30 = .ok (.istore_n 3, 1) := by decide +kernel
theorem dX11_times_31 : decode cX11_times 31 = .ok (.aload_n 0, 1) := by decide +kernel
theorem dX11_times_32 : decode cX11_times 32 = .ok (.getfield 10, 3) := by decide +kernel
theorem dX11_times_35 : decode cX11_times 35 = .ok (.getfield 300, 3) := by decide +kernel
theorem dX11_times_38 : decode cX11_times 38 = .ok (.istore 4, 2) := by decide +kernel
theorem dX11_times_40 : decode cX11_times 40 = .ok (.aload_n 0, 1) := by decide +kernel
theorem dX11_times_41 : decode cX11_times 41 = .ok (.getfield 10, 3) := by decide +kernel
theorem dX11_times_44 : decode cX11_times 44 = .ok (.bipush 16, 2) := by decide +kernel
theorem dX11_times_46 : decode cX11_times 46 = .ok (.invokevirtual 212, 3) := by decide +kernel
theorem dX11_times_49 : decode cX11_times 49 = .ok (.istore 5, 2) := by decide +kernel
theorem dX11_times_51 : decode cX11_times 51 = .ok (.iconst 0, 1) := by decide +kernel
theorem dX11_times_52 : decode cX11_times 52 = .ok (.istore 6, 2) := by decide +kernel
theorem dX11_times_54 : decode cX11_times 54 = .ok (.iconst 0, 1) := by decide +kernel
theorem dX11_times_55 : decode cX11_times 55 = .ok (.istore 7, 2) := by decide +kernel
theorem dX11_times_57 : decode cX11_times 57 = .ok (.iload 7, 2) := by decide +kernel
theorem dX11_times_59 : decode cX11_times 59 = .ok (.iload_n 1, 1) := by decide +kernel
theorem dX11_times_60 : decode cX11_times 60 = .ok (.if_icmp .ge 57, 3) := by decide +kernel
theorem dX11_times_63 : decode cX11_times 63 = .ok (.iconst 0, 1) := by decide +kernel
theorem dX11_times_64 : decode cX11_times 64 = .ok (.istore 8, 2) := by decide +kernel
theorem dX11_times_66 : decode cX11_times 66 = .ok (.iconst 0, 1) := by decide +kernel
theorem dX11_times_67 : decode cX11_times 67 = .ok (.istore 9, 2) := by decide +kernel
theorem dX11_times_69 : decode cX11_times 69 = .ok (.iload 9, 2) := by decide +kernel
theorem dX11_times_71 : decode cX11_times 71 = .ok (.iload 5, 2) := by decide +kernel
theorem dX11_times_73 : decode cX11_times 73 = .ok (.if_icmp .ge 21, 3) := by decide +kernel
theorem dX11_times_76 : decode cX11_times 76 = .ok (.iload 8, 2) := by decide +kernel
theorem dX11_times_78 : decode cX11_times 78 = .ok (.aload_n 0, 1) := by decide +kernel
theorem dX11_times_79 : decode cX11_times 79 = .ok (.getfield 10, 3) := by decide +kernel
theorem dX11_times_82 : decode cX11_times 82 = .ok (.invokevirtual 303, 3) := by decide +kernel
theorem dX11_times_85 : decode cX11_times 85 = .ok (.iadd, 1) := by decide +kernel
theorem dX11_times_86 : decode cX11_times 86 = .ok (.istore 8, 2) := by decide +kernel
theorem dX11_times_88 : decode cX11_times 88 = .ok (.iinc 9 1, 3) := by decide +kernel
theorem dX11_times_91 : decode cX11_times 91 = .ok (.goto (-22), 3) := by decide +kernel
theorem dX11_times_94 : decode cX11_times 94 = .ok (.iload 8, 2) := by decide +kernel
theorem dX11_times_96 : decode cX11_times 96 = .ok (.iload_n 2, 1) := by decide +kernel
theorem dX11_times_97 : decode cX11_times 97 = .ok (.if_icmp .lt 6, 3) := by decide +kernel
theorem dX11_times_100 : decode cX11_times 100 = .ok (.iinc 6 1, 3) := by decide +kernel
theorem dX11_times_103 : decode cX11_times 103 = .ok (.aload_n 0, 1) := by decide +kernel
theorem dX11_times_104 : decode cX11_times 104 = .ok (.getfield 10, 3) := by decide +kernel
theorem dX11_times_107 : decode cX11_times 107 = .ok (.iload_n 3, 1) := by decide +kernel
theorem dX11_times_108 : decode cX11_times 108 = .ok (.invokevirtual 215, 3) := by decide +kernel
theorem dX11_times_111 : decode cX11_times 111 = .ok (.iinc 7 1, 3) := by decide +kernel
theorem dX11_times_114 : decode cX11_times 114 = .ok (.goto (-57), 3) := by decide +kernel
theorem dX11_times_117 : decode cX11_times 117 = .ok (.aload_n 0, 1) := by decide +kernel
theorem dX11_times_118 : decode cX11_times 118 = .ok (.getfield 10, 3) := by decide +kernel
theorem dX11_times_121 : decode cX11_times 121 = .ok (.iload 4, 2) := by decide +kernel
theorem dX11_times_123 : decode cX11_times 123 = .ok (.putfield 300, 3) := by decide +kernel
theorem dX11_times_126 : decode cX11_times 126 = .ok (.iload 6, 2) := by decide +kernel
theorem dX11_times_128 : decode cX11_times 128 = .ok (.ireturn, 1) := by decide +kernel
theorem dX11_prove_0 : decode cX11_prove 0 = .ok (.iload_n 1, 1) := by decide +kernel
theorem dX11_prove_1 : decode cX11_prove 1 = .ok (.iconst 4, 1) := by decide +kernel
theorem dX11_prove_2 : decode cX11_prove 2 = .ok (.invokestatic 79, 3) := by decide +kernel
theorem dX11_prove_5 : decode cX11_prove 5 = .ok (.ifCond .ne 5, 3) := by decide +kernel
theorem dX11_prove_8 : decode cX11_prove 8 = .ok (.iconst (-1), 1) := by decide +kernel
theorem dX11_prove_9 : decode cX11_prove 9 = .ok (.ireturn, 1) := by decide +kernel
theorem dX11_prove_10 : decode cX11_prove 10 = .ok (.aload_n 0, 1) := by decide +kernel
theorem dX11_prove_11 : decode cX11_prove 11 = .ok (.getfield 10, 3) := by decide +kernel
theorem dX11_prove_14 : decode cX11_prove 14 = .ok (.invokevirtual 209, 3) := by decide +kernel
theorem dX11_prove_17 : decode cX11_prove 17 = .ok (.istore_n 2, 1) := by decide +kernel
theorem dX11_prove_18 : decode cX11_prove 18 = .ok (.aload_n 0, 1) := by decide +kernel
theorem dX11_prove_19 : decode cX11_prove 19 = .ok (.aload_n 0, 1) := by decide +kernel
theorem dX11_prove_20 : decode cX11_prove 20 = .ok (.getfield 10, 3) := by decide +kernel
theorem dX11_prove_23 : decode cX11_prove 23 = .ok (.iload_n 1, 1) := by decide +kernel
theorem dX11_prove_24 : decode cX11_prove 24 = .ok (.invokevirtual 212, 3) := by decide +kernel
theorem dX11_prove_27 : decode cX11_prove 27 = .ok (.putfield 306, 3) := by decide +kernel
theorem dX11_prove_30 : decode cX11_prove 30 = .ok (.aload_n 0, 1) := by decide +kernel
theorem dX11_prove_31 : decode cX11_prove 31 = .ok (.getfield 24, 3) := by decide +kernel
theorem dX11_prove_34 : decode cX11_prove 34 = .ok (.aload_n 0, 1) := by decide +kernel
theorem dX11_prove_35 : decode cX11_prove 35 = .ok (.getfield 306, 3) := by decide +kernel
theorem dX11_prove_38 : decode cX11_prove 38 = .ok (.invokevirtual 251, 3) := by decide +kernel
theorem dX11_prove_41 : decode cX11_prove 41 = .ok (.pop, 1) := by decide +kernel
theorem dX11_prove_42 : decode cX11_prove 42 = .ok (.iconst 0, 1) := by decide +kernel
theorem dX11_prove_43 : decode cX11_prove 43 = .ok (.istore_n 3, 1) := by decide +kernel
theorem dX11_prove_44 : decode cX11_prove 44 = .ok (.iload_n 3, 1) := by decide +kernel
theorem dX11_prove_45 : decode cX11_prove 45 = .ok (.aload_n 0, 1) := by decide +kernel
theorem dX11_prove_46 : decode cX11_prove 46 = .ok (.getfield 306, 3) := by decide +kernel
theorem dX11_prove_49 : decode cX11_prove 49 = .ok (.if_icmp .ge 71, 3) := by decide +kernel
theorem dX11_prove_52 : decode cX11_prove 52 = .ok (.aload_n 0, 1) := by decide +kernel
theorem dX11_prove_53 : decode cX11_prove 53 = .ok (.getfield 24, 3) := by decide +kernel
theorem dX11_prove_56 : decode cX11_prove 56 = .ok (.getfield 254, 3) := by decide +kernel
theorem dX11_prove_59 : decode cX11_prove 59 = .ok (.aload_n 0, 1) := by decide +kernel
theorem dX11_prove_60 : decode cX11_prove 60 = .ok (.getfield 306, 3) := by decide +kernel
theorem dX11_prove_63 : decode cX11_prove 63 = .ok (.aaload, 1) := by decide +kernel
theorem dX11_prove_64 : decode cX11_prove 64 = .ok (.iload_n 3, 1) := by decide +kernel
theorem dX11_prove_65 : decode cX11_prove 65 = .ok (.iaload, 1) := by decide +kernel
theorem dX11_prove_66 : decode cX11_prove 66 = .ok (.istore 4, 2) := by decide +kernel
theorem dX11_prove_68 : decode cX11_prove 68 = .ok (.aload_n 0, 1) := by decide +kernel
theorem dX11_prove_69 : decode cX11_prove 69 = .ok (.getfield 46, 3) := by decide +kernel
theorem dX11_prove_72 : decode cX11_prove 72 = .ok (.iload_n 3, 1) := by decide +kernel
theorem dX11_prove_73 : decode cX11_prove 73 = .ok (.iconst 3, 1) := by decide +kernel
theorem dX11_prove_74 : decode cX11_prove 74 = .ok (.imul, 1) := by decide +kernel
theorem dX11_prove_75 : decode cX11_prove 75 = .ok (.iload 4, 2) := by decide +kernel
theorem dX11_prove_77 : decode cX11_prove 77 = .ok (.iastore, 1) := by decide +kernel
theorem dX11_prove_78 : decode cX11_prove 78 = .ok (.aload_n 0, 1) := by decide +kernel
theorem dX11_prove_79 : decode cX11_prove 79 = .ok (.getfield 46, 3) := by decide +kernel
theorem dX11_prove_82 : decode cX11_prove 82 = .ok (.iload_n 3, 1) := by decide +kernel
theorem dX11_prove_83 : decode cX11_prove 83 = .ok (.iconst 3, 1) := by decide +kernel
theorem dX11_prove_84 : decode cX11_prove 84 = .ok (.imul, 1) := by decide +kernel
theorem dX11_prove_85 : decode cX11_prove 85 = .ok (.iconst 1, 1) := by decide +kernel
theorem dX11_prove_86 : decode cX11_prove 86 = .ok (.iadd, 1) := by decide +kernel
theorem dX11_prove_87 : decode cX11_prove 87 = .ok (.aload_n 0, 1) := by decide +kernel
theorem dX11_prove_88 : decode cX11_prove 88 = .ok (.getfield 10, 3) := by decide +kernel
theorem dX11_prove_91 : decode cX11_prove 91 = .ok (.iload 4, 2) := by decide +kernel
theorem dX11_prove_93 : decode cX11_prove 93 = .ok (.invokevirtual 309, 3) := by decide +kernel
theorem dX11_prove_96 : decode cX11_prove 96 = .ok (.iastore, 1) := by decide +kernel
theorem dX11_prove_97 : decode cX11_prove 97 = .ok (.aload_n 0, 1) := by decide +kernel
theorem dX11_prove_98 : decode cX11_prove 98 = .ok (.getfield 46, 3) := by decide +kernel
theorem dX11_prove_101 : decode cX11_prove 101 = .ok (.iload_n 3, 1) := by decide +kernel
theorem dX11_prove_102 : decode cX11_prove 102 = .ok (.iconst 3, 1) := by decide +kernel
theorem dX11_prove_103 : decode cX11_prove 103 = .ok (.imul, 1) := by decide +kernel
theorem dX11_prove_104 : decode cX11_prove 104 = .ok (.iconst 2, 1) := by decide +kernel
theorem dX11_prove_105 : decode cX11_prove 105 = .ok (.iadd, 1) := by decide +kernel
theorem dX11_prove_106 : decode cX11_prove 106 = .ok (.aload_n 0, 1) := by decide +kernel
theorem dX11_prove_107 : decode cX11_prove 107 = .ok (.getfield 10, 3) := by decide +kernel
theorem dX11_prove_110 : decode cX11_prove 110 = .ok (.getfield 113, 3) := by decide +kernel
theorem dX11_prove_113 : decode cX11_prove 113 = .ok (.iastore, 1) := by decide +kernel
theorem dX11_prove_114 : decode cX11_prove 114 = .ok (.iinc 3 1, 3) := by decide +kernel
theorem dX11_prove_117 : decode cX11_prove 117 = .ok (.goto (-73), 3) := by decide +kernel
theorem dX11_prove_120 : decode cX11_prove 120 = .ok (.aload_n 0, 1) := by decide +kernel
theorem dX11_prove_121 : decode cX11_prove 121 = .ok (.getfield 10, 3) := by decide +kernel
theorem dX11_prove_124 : decode cX11_prove 124 = .ok (.iload_n 2, 1) := by decide +kernel
theorem dX11_prove_125 : decode cX11_prove 125 = .ok (.invokevirtual 215, 3) := by decide +kernel
theorem dX11_prove_128 : decode cX11_prove 128 = .ok (.aload_n 0, 1) := by decide +kernel
theorem dX11_prove_129 : decode cX11_prove 129 = .ok (.getfield 306, 3) := by decide +kernel
theorem dX11_prove_132 : decode cX11_prove 132 = .ok (.ireturn, 1) := by decide +kernel
theorem dX11_row_0 : decode cX11_row 0 = .ok (.aload_n 0, 1) := by decide +kernel
theorem dX11_row_1 : decode cX11_row 1 = .ok (.iload_n 1, 1) := by decide +kernel
theorem dX11_row_2 : decode cX11_row 2 = .ok (.iload_n 2, 1) := by decide +kernel
theorem dX11_row_3 : decode cX11_row 3 = .ok (.invokevirtual 312, 3) := by decide +kernel
theorem dX11_row_6 : decode cX11_row 6 = .ok (.ifCond .eq 16, 3) := by decide +kernel
theorem dX11_row_9 : decode cX11_row 9 = .ok (.aload_n 0, 1) := by decide +kernel
theorem dX11_row_10 : decode cX11_row 10 = .ok (.getfield 46, 3) := by decide +kernel
theorem dX11_row_13 : decode cX11_row 13 = .ok (.iload_n 1, 1) := by decide +kernel
theorem dX11_row_14 : decode cX11_row 14 = .ok (.iconst 3, 1) := by decide +kernel
theorem dX11_row_15 : decode cX11_row 15 = .ok (.imul, 1) := by decide +kernel
theorem dX11_row_16 : decode cX11_row 16 = .ok (.iload_n 2, 1) := by decide +kernel
theorem dX11_row_17 : decode cX11_row 17 = .ok (.iadd, 1) := by decide +kernel
theorem dX11_row_18 : decode cX11_row 18 = .ok (.iaload, 1) := by decide +kernel
theorem dX11_row_19 : decode cX11_row 19 = .ok (.goto 5, 3) := by decide +kernel
theorem dX11_row_22 : decode cX11_row 22 = .ok (.bipush (-9), 2) := by decide +kernel
theorem dX11_row_24 : decode cX11_row 24 = .ok (.ireturn, 1) := by decide +kernel
theorem dX11_alterRow_0 : decode cX11_alterRow 0 = .ok (.aload_n 0, 1) := by decide +kernel
theorem dX11_alterRow_1 : decode cX11_alterRow 1 = .ok (.iload_n 1, 1) := by decide +kernel
theorem dX11_alterRow_2 : decode cX11_alterRow 2 = .ok (.iload_n 2, 1) := by decide +kernel
theorem dX11_alterRow_3 : decode cX11_alterRow 3 = .ok (.invokevirtual 312, 3) := by decide +kernel
theorem dX11_alterRow_6 : decode cX11_alterRow 6 = .ok (.ifCond .eq 19, 3) := by decide +kernel
theorem dX11_alterRow_9 : decode cX11_alterRow 9 = .ok (.aload_n 0, 1) := by decide +kernel
theorem dX11_alterRow_10 : decode cX11_alterRow 10 = .ok (.getfield 46, 3) := by decide +kernel
theorem dX11_alterRow_13 : decode cX11_alterRow 13 = .ok (.iload_n 1, 1) := by decide +kernel
theorem dX11_alterRow_14 : decode cX11_alterRow 14 = .ok (.iconst 3, 1) := by decide +kernel
theorem dX11_alterRow_15 : decode cX11_alterRow 15 = .ok (.imul, 1) := by decide +kernel
theorem dX11_alterRow_16 : decode cX11_alterRow 16 = .ok (.iload_n 2, 1) := by decide +kernel
theorem dX11_alterRow_17 : decode cX11_alterRow 17 = .ok (.iadd, 1) := by decide +kernel
theorem dX11_alterRow_18 : decode cX11_alterRow 18 = .ok (.iload_n 3, 1) := by decide +kernel
theorem dX11_alterRow_19 : decode cX11_alterRow 19 = .ok (.invokestatic 129, 3) := by decide +kernel
theorem dX11_alterRow_22 : decode cX11_alterRow 22 = .ok (.goto 5, 3) := by decide +kernel
theorem dX11_alterRow_25 : decode cX11_alterRow 25 = .ok (.bipush (-9), 2) := by decide +kernel
theorem dX11_alterRow_27 : decode cX11_alterRow 27 = .ok (.ireturn, 1) := by decide +kernel
theorem dX11_isRowPart_0 : decode cX11_isRowPart 0 = .ok (.iload_n 1, 1) := by decide +kernel
theorem dX11_isRowPart_1 : decode cX11_isRowPart 1 = .ok (.ifCond .lt 23, 3) := by decide +kernel
theorem dX11_isRowPart_4 : decode cX11_isRowPart 4 = .ok (.iload_n 1, 1) := by decide +kernel
theorem dX11_isRowPart_5 : decode cX11_isRowPart 5 = .ok (.aload_n 0, 1) := by decide +kernel
theorem dX11_isRowPart_6 : decode cX11_isRowPart 6 = .ok (.getfield 306, 3) := by decide +kernel
theorem dX11_isRowPart_9 : decode cX11_isRowPart 9 = .ok (.if_icmp .ge 15, 3) := by decide +kernel
theorem dX11_isRowPart_12 : decode cX11_isRowPart 12 = .ok (.iload_n 2, 1) := by decide +kernel
theorem dX11_isRowPart_13 : decode cX11_isRowPart 13 = .ok (.iconst 2, 1) := by decide +kernel
theorem dX11_isRowPart_14 : decode cX11_isRowPart 14 = .ok (.invokestatic 79, 3) := by decide +kernel
theorem dX11_isRowPart_17 : decode cX11_isRowPart 17 = .ok (.ifCond .eq 7, 3) := by decide +kernel
theorem dX11_isRowPart_20 : decode cX11_isRowPart 20 = .ok (.iconst 1, 1) := by decide +kernel
theorem dX11_isRowPart_21 : decode cX11_isRowPart 21 = .ok (.goto 4, 3) := by decide +kernel
theorem dX11_isRowPart_24 : decode cX11_isRowPart 24 = .ok (.iconst 0, 1) := by decide +kernel
theorem dX11_isRowPart_25 : decode cX11_isRowPart 25 = .ok (.ireturn, 1) := by decide +kernel
theorem dX11_judge_0 : decode cX11_judge 0 = .ok (.aload_n 0, 1) := by decide +kernel
theorem dX11_judge_1 : decode cX11_judge 1 = .ok (.getfield 10, 3) := by decide +kernel
theorem dX11_judge_4 : decode cX11_judge 4 = .ok (.invokevirtual 209, 3) := by decide +kernel
theorem dX11_judge_7 : decode cX11_judge 7 = .ok (.istore_n 1, 1) := by decide +kernel
theorem dX11_judge_8 : decode cX11_judge 8 = .ok (.iconst 0, 1) := by decide +kernel
theorem dX11_judge_9 : decode cX11_judge 9 = .ok (.istore_n 2, 1) := by decide +kernel
theorem dX11_judge_10 : decode cX11_judge 10 = .ok (.iconst 0, 1) := by decide +kernel
theorem dX11_judge_11 : decode cX11_judge 11 = .ok (.istore_n 3, 1) := by decide +kernel
theorem dX11_judge_12 : decode cX11_judge 12 = .ok (.iload_n 3, 1) := by decide +kernel
theorem dX11_judge_13 : decode cX11_judge 13 = .ok (.aload_n 0, 1) := by decide +kernel
theorem dX11_judge_14 : decode cX11_judge 14 = .ok (.getfield 306, 3) := by decide +kernel
theorem dX11_judge_17 : decode cX11_judge 17 = .ok (.if_icmp .ge 25, 3) := by decide +kernel
theorem dX11_judge_20 : decode cX11_judge 20 = .ok (.iload_n 2, 1) := by decide +kernel
theorem dX11_judge_21 : decode cX11_judge 21 = .ok (.ifCond .ne 21, 3) := by decide +kernel
theorem dX11_judge_24 : decode cX11_judge 24 = .ok (.aload_n 0, 1) := by decide +kernel
theorem dX11_judge_25 : decode cX11_judge 25 = .ok (.iload_n 3, 1) := by decide +kernel
theorem dX11_judge_26 : decode cX11_judge 26 = .ok (.invokevirtual 315, 3) := by decide +kernel
theorem dX11_judge_29 : decode cX11_judge 29 = .ok (.ifCond .ne 7, 3) := by decide +kernel
theorem dX11_judge_32 : decode cX11_judge 32 = .ok (.iload_n 3, 1) := by decide +kernel
theorem dX11_judge_33 : decode cX11_judge 33 = .ok (.iconst 1, 1) := by decide +kernel
theorem dX11_judge_34 : decode cX11_judge 34 = .ok (.iadd, 1) := by decide +kernel
theorem dX11_judge_35 : decode cX11_judge 35 = .ok (.istore_n 2, 1) := by decide +kernel
theorem dX11_judge_36 : decode cX11_judge 36 = .ok (.iinc 3 1, 3) := by decide +kernel
theorem dX11_judge_39 : decode cX11_judge 39 = .ok (.goto (-27), 3) := by decide +kernel
theorem dX11_judge_42 : decode cX11_judge 42 = .ok (.aload_n 0, 1) := by decide +kernel
theorem dX11_judge_43 : decode cX11_judge 43 = .ok (.getfield 10, 3) := by decide +kernel
theorem dX11_judge_46 : decode cX11_judge 46 = .ok (.iload_n 1, 1) := by decide +kernel
theorem dX11_judge_47 : decode cX11_judge 47 = .ok (.invokevirtual 215, 3) := by decide +kernel
theorem dX11_judge_50 : decode cX11_judge 50 = .ok (.iload_n 2, 1) := by decide +kernel
theorem dX11_judge_51 : decode cX11_judge 51 = .ok (.ireturn, 1) := by decide +kernel
theorem dX11_isRight_0 : decode cX11_isRight 0 = .ok (.aload_n 0, 1) := by decide +kernel
theorem dX11_isRight_1 : decode cX11_isRight 1 = .ok (.getfield 46, 3) := by decide +kernel
theorem dX11_isRight_4 : decode cX11_isRight 4 = .ok (.iload_n 1, 1) := by decide +kernel
theorem dX11_isRight_5 : decode cX11_isRight 5 = .ok (.iconst 3, 1) := by decide +kernel
theorem dX11_isRight_6 : decode cX11_isRight 6 = .ok (.imul, 1) := by decide +kernel
theorem dX11_isRight_7 : decode cX11_isRight 7 = .ok (.iaload, 1) := by decide +kernel
theorem dX11_isRight_8 : decode cX11_isRight 8 = .ok (.istore_n 2, 1) := by decide +kernel
theorem dX11_isRight_9 : decode cX11_isRight 9 = .ok (.aload_n 0, 1) := by decide +kernel
theorem dX11_isRight_10 : decode cX11_isRight 10 = .ok (.getfield 10, 3) := by decide +kernel
theorem dX11_isRight_13 : decode cX11_isRight 13 = .ok (.iload_n 2, 1) := by decide +kernel
theorem dX11_isRight_14 : decode cX11_isRight 14 = .ok (.invokevirtual 318, 3) := by decide +kernel
theorem dX11_isRight_17 : decode cX11_isRight 17 = .ok (.ifCond .eq 13, 3) := by decide +kernel
theorem dX11_isRight_20 : decode cX11_isRight 20 = .ok (.aload_n 0, 1) := by decide +kernel
theorem dX11_isRight_21 : decode cX11_isRight 21 = .ok (.getfield 10, 3) := by decide +kernel
theorem dX11_isRight_24 : decode cX11_isRight 24 = .ok (.invokevirtual 170, 3) := by decide +kernel
theorem dX11_isRight_27 : decode cX11_isRight 27 = .ok (.ifCond .eq 5, 3) := by decide +kernel
theorem dX11_isRight_30 : decode cX11_isRight 30 = .ok (.iconst 0, 1) := by decide +kernel
theorem dX11_isRight_31 : decode cX11_isRight 31 = .ok (.ireturn, 1) := by decide +kernel
theorem dX11_isRight_32 : decode cX11_isRight 32 = .ok (.aload_n 0, 1) := by decide +kernel
theorem dX11_isRight_33 : decode cX11_isRight 33 = .ok (.getfield 10, 3) := by decide +kernel
theorem dX11_isRight_36 : decode cX11_isRight 36 = .ok (.iload_n 2, 1) := by decide +kernel
theorem dX11_isRight_37 : decode cX11_isRight 37 = .ok (.invokevirtual 309, 3) := by decide +kernel
theorem dX11_isRight_40 : decode cX11_isRight 40 = .ok (.aload_n 0, 1) := by decide +kernel
theorem dX11_isRight_41 : decode cX11_isRight 41 = .ok (.getfield 46, 3) := by decide +kernel
theorem dX11_isRight_44 : decode cX11_isRight 44 = .ok (.iload_n 1, 1) := by decide +kernel
theorem dX11_isRight_45 : decode cX11_isRight 45 = .ok (.iconst 3, 1) := by decide +kernel
theorem dX11_isRight_46 : decode cX11_isRight 46 = .ok (.imul, 1) := by decide +kernel
theorem dX11_isRight_47 : decode cX11_isRight 47 = .ok (.iconst 1, 1) := by decide +kernel
theorem dX11_isRight_48 : decode cX11_isRight 48 = .ok (.iadd, 1) := by decide +kernel
theorem dX11_isRight_49 : decode cX11_isRight 49 = .ok (.iaload, 1) := by decide +kernel
theorem dX11_isRight_50 : decode cX11_isRight 50 = .ok (.if_icmp .ne 27, 3) := by decide +kernel
theorem dX11_isRight_53 : decode cX11_isRight 53 = .ok (.aload_n 0, 1) := by decide +kernel
theorem dX11_isRight_54 : decode cX11_isRight 54 = .ok (.getfield 10, 3) := by decide +kernel
theorem dX11_isRight_57 : decode cX11_isRight 57 = .ok (.getfield 113, 3) := by decide +kernel
theorem dX11_isRight_60 : decode cX11_isRight 60 = .ok (.aload_n 0, 1) := by decide +kernel
theorem dX11_isRight_61 : decode cX11_isRight 61 = .ok (.getfield 46, 3) := by decide +kernel
theorem dX11_isRight_64 : decode cX11_isRight 64 = .ok (.iload_n 1, 1) := by decide +kernel
theorem dX11_isRight_65 : decode cX11_isRight 65 = .ok (.iconst 3, 1) := by decide +kernel
theorem dX11_isRight_66 : decode cX11_isRight 66 = .ok (.imul, 1) := by decide +kernel
theorem dX11_isRight_67 : decode cX11_isRight 67 = .ok (.iconst 2, 1) := by decide +kernel
theorem dX11_isRight_68 : decode cX11_isRight 68 = .ok (.iadd, 1) := by decide +kernel
theorem dX11_isRight_69 : decode cX11_isRight 69 = .ok (.iaload, 1) := by decide +kernel
theorem dX11_isRight_70 : decode cX11_isRight 70 = .ok (.if_icmp .ne 7, 3) := by decide +kernel
theorem dX11_isRight_73 : decode cX11_isRight 73 = .ok (.iconst 1, 1) := by decide +kernel
theorem dX11_isRight_74 : decode cX11_isRight 74 = .ok (.goto 4, 3) := by decide +kernel
theorem dX11_isRight_77 : decode cX11_isRight 77 = .ok (.iconst 0, 1) := by decide +kernel
theorem dX11_isRight_78 : decode cX11_isRight 78 = .ok (.ireturn, 1) := by decide +kernel
theorem dX11_sheet_0 : decode cX11_sheet 0 = .ok (.iload_n 1, 1) := by decide +kernel
theorem dX11_sheet_1 : decode cX11_sheet 1 = .ok (.iconst 3, 1) := by decide +kernel
theorem dX11_sheet_2 : decode cX11_sheet 2 = .ok (.invokestatic 79, 3) := by decide +kernel
theorem dX11_sheet_5 : decode cX11_sheet 5 = .ok (.ifCond .eq 13, 3) := by decide +kernel
theorem dX11_sheet_8 : decode cX11_sheet 8 = .ok (.iload_n 2, 1) := by decide +kernel
theorem dX11_sheet_9 : decode cX11_sheet 9 = .ok (.iconst (-1), 1) := by decide +kernel
theorem dX11_sheet_10 : decode cX11_sheet 10 = .ok (.if_icmp .lt 8, 3) := by decide +kernel
theorem dX11_sheet_13 : decode cX11_sheet 13 = .ok (.iload_n 2, 1) := by decide +kernel
theorem dX11_sheet_14 : decode cX11_sheet 14 = .ok (.iconst 5, 1) := by decide +kernel
theorem dX11_sheet_15 : decode cX11_sheet 15 = .ok (.if_icmp .lt 5, 3) := by decide +kernel
theorem dX11_sheet_18 : decode cX11_sheet 18 = .ok (.iconst (-1), 1) := by decide +kernel
theorem dX11_sheet_19 : decode cX11_sheet 19 = .ok (.ireturn, 1) := by decide +kernel
theorem dX11_sheet_20 : decode cX11_sheet 20 = .ok (.iload_n 2, 1) := by decide +kernel
theorem dX11_sheet_21 : decode cX11_sheet 21 = .ok (.iconst (-1), 1) := by decide +kernel
theorem dX11_sheet_22 : decode cX11_sheet 22 = .ok (.if_icmp .ne 19, 3) := by decide +kernel
theorem dX11_sheet_25 : decode cX11_sheet 25 = .ok (.aload_n 0, 1) := by decide +kernel
theorem dX11_sheet_26 : decode cX11_sheet 26 = .ok (.getfield 50, 3) := by decide +kernel
theorem dX11_sheet_29 : decode cX11_sheet 29 = .ok (.iload_n 1, 1) := by decide +kernel
theorem dX11_sheet_30 : decode cX11_sheet 30 = .ok (.iconst (-1), 1) := by decide +kernel
theorem dX11_sheet_31 : decode cX11_sheet 31 = .ok (.iastore, 1) := by decide +kernel
theorem dX11_sheet_32 : decode cX11_sheet 32 = .ok (.aload_n 0, 1) := by decide +kernel
theorem dX11_sheet_33 : decode cX11_sheet 33 = .ok (.getfield 53, 3) := by decide +kernel
theorem dX11_sheet_36 : decode cX11_sheet 36 = .ok (.iload_n 1, 1) := by decide +kernel
theorem dX11_sheet_37 : decode cX11_sheet 37 = .ok (.iconst 0, 1) := by decide +kernel
theorem dX11_sheet_38 : decode cX11_sheet 38 = .ok (.iastore, 1) := by decide +kernel
theorem dX11_sheet_39 : decode cX11_sheet 39 = .ok (.iconst 1, 1) := by decide +kernel
theorem dX11_sheet_40 : decode cX11_sheet 40 = .ok (.ireturn, 1) := by decide +kernel
theorem dX11_sheet_41 : decode cX11_sheet 41 = .ok (.iload_n 3, 1) := by decide +kernel
theorem dX11_sheet_42 : decode cX11_sheet 42 = .ok (.bipush 40, 2) := by decide +kernel
theorem dX11_sheet_44 : decode cX11_sheet 44 = .ok (.if_icmp .le 5, 3) := by decide +kernel
theorem dX11_sheet_47 : decode cX11_sheet 47 = .ok (.iconst (-1), 1) := by decide +kernel
theorem dX11_sheet_48 : decode cX11_sheet 48 = .ok (.ireturn, 1) := by decide +kernel
theorem dX11_sheet_49 : decode cX11_sheet 49 = .ok (.iload_n 3, 1) := by decide +kernel
theorem dX11_sheet_50 : decode cX11_sheet 50 = .ok (.ifCond .ge 6, 3) := by decide +kernel
theorem dX11_sheet_53 : decode cX11_sheet 53 = .ok (.bipush (-14), 2) := by decide +kernel
theorem dX11_sheet_55 : decode cX11_sheet 55 = .ok (.ireturn, 1) := by decide +kernel
theorem dX11_sheet_56 : decode cX11_sheet 56 = .ok (.aload_n 0, 1) := by decide +kernel
theorem dX11_sheet_57 : decode cX11_sheet 57 = .ok (.getfield 50, 3) := by decide +kernel
theorem dX11_sheet_60 : decode cX11_sheet 60 = .ok (.iload_n 1, 1) := by decide +kernel
theorem dX11_sheet_61 : decode cX11_sheet 61 = .ok (.iload_n 2, 1) := by decide +kernel
theorem dX11_sheet_62 : decode cX11_sheet 62 = .ok (.iastore, 1) := by decide +kernel
theorem dX11_sheet_63 : decode cX11_sheet 63 = .ok (.aload_n 0, 1) := by decide +kernel
theorem dX11_sheet_64 : decode cX11_sheet 64 = .ok (.getfield 53, 3) := by decide +kernel
theorem dX11_sheet_67 : decode cX11_sheet 67 = .ok (.iload_n 1, 1) := by decide +kernel
theorem dX11_sheet_68 : decode cX11_sheet 68 = .ok (.iload_n 3, 1) := by decide +kernel
theorem dX11_sheet_69 : decode cX11_sheet 69 = .ok (.iastore, 1) := by decide +kernel
theorem dX11_sheet_70 : decode cX11_sheet 70 = .ok (.aload_n 0, 1) := by decide +kernel
theorem dX11_sheet_71 : decode cX11_sheet 71 = .ok (.getfield 56, 3) := by decide +kernel
theorem dX11_sheet_74 : decode cX11_sheet 74 = .ok (.iload_n 1, 1) := by decide +kernel
theorem dX11_sheet_75 : decode cX11_sheet 75 = .ok (.bipush 40, 2) := by decide +kernel
theorem dX11_sheet_77 : decode cX11_sheet 77 = .ok (.imul, 1) := by decide +kernel
theorem dX11_sheet_78 : decode cX11_sheet 78 = .ok (.iload_n 1, 1) := by decide +kernel
theorem dX11_sheet_79 : decode cX11_sheet 79 = .ok (.bipush 40, 2) := by decide +kernel
theorem dX11_sheet_81 : decode cX11_sheet 81 = .ok (.imul, 1) := by decide +kernel
theorem dX11_sheet_82 : decode cX11_sheet 82 = .ok (.bipush 40, 2) := by decide +kernel
theorem dX11_sheet_84 : decode cX11_sheet 84 = .ok (.iadd, 1) := by decide +kernel
theorem dX11_sheet_85 : decode cX11_sheet 85 = .ok (.lconst 0, 1) := by decide +kernel
theorem dX11_sheet_86 : decode cX11_sheet 86 = .ok (.invokestatic 321, 3) := by decide +kernel
theorem dX11_sheet_89 : decode cX11_sheet 89 = .ok (.iconst 1, 1) := by decide +kernel
theorem dX11_sheet_90 : decode cX11_sheet 90 = .ok (.ireturn, 1) := by decide +kernel
theorem dX11_write_0 : decode cX11_write 0 = .ok (.iload_n 1, 1) := by decide +kernel
theorem dX11_write_1 : decode cX11_write 1 = .ok (.iconst 3, 1) := by decide +kernel
theorem dX11_write_2 : decode cX11_write 2 = .ok (.invokestatic 79, 3) := by decide +kernel
theorem dX11_write_5 : decode cX11_write 5 = .ok (.ifCond .ne 5, 3) := by decide +kernel
theorem dX11_write_8 : decode cX11_write 8 = .ok (.iconst (-1), 1) := by decide +kernel
theorem dX11_write_9 : decode cX11_write 9 = .ok (.ireturn, 1) := by decide +kernel
theorem dX11_write_10 : decode cX11_write 10 = .ok (.aload_n 0, 1) := by decide +kernel
theorem dX11_write_11 : decode cX11_write 11 = .ok (.getfield 50, 3) := by decide +kernel
theorem dX11_write_14 : decode cX11_write 14 = .ok (.iload_n 1, 1) := by decide +kernel
theorem dX11_write_15 : decode cX11_write 15 = .ok (.iaload, 1) := by decide +kernel
theorem dX11_write_16 : decode cX11_write 16 = .ok (.iconst (-1), 1) := by decide +kernel
theorem dX11_write_17 : decode cX11_write 17 = .ok (.if_icmp .ne 6, 3) := by decide +kernel
theorem dX11_write_20 : decode cX11_write 20 = .ok (.bipush (-11), 2) := by decide +kernel
theorem dX11_write_22 : decode cX11_write 22 = .ok (.ireturn, 1) := by decide +kernel
theorem dX11_write_23 : decode cX11_write 23 = .ok (.aload_n 0, 1) := by decide +kernel
theorem dX11_write_24 : decode cX11_write 24 = .ok (.iload_n 1, 1) := by decide +kernel
theorem dX11_write_25 : decode cX11_write 25 = .ok (.iload_n 2, 1) := by decide +kernel
theorem dX11_write_26 : decode cX11_write 26 = .ok (.invokevirtual 324, 3) := by decide +kernel
theorem dX11_write_29 : decode cX11_write 29 = .ok (.ifCond .ne 6, 3) := by decide +kernel
theorem dX11_write_32 : decode cX11_write 32 = .ok (.bipush (-12), 2) := by decide +kernel
theorem dX11_write_34 : decode cX11_write 34 = .ok (.ireturn, 1) := by decide +kernel
theorem dX11_write_35 : decode cX11_write 35 = .ok (.aload_n 0, 1) := by decide +kernel
theorem dX11_write_36 : decode cX11_write 36 = .ok (.getfield 56, 3) := by decide +kernel
theorem dX11_write_39 : decode cX11_write 39 = .ok (.iload_n 1, 1) := by decide +kernel
theorem dX11_write_40 : decode cX11_write 40 = .ok (.bipush 40, 2) := by decide +kernel
theorem dX11_write_42 : decode cX11_write 42 = .ok (.imul, 1) := by decide +kernel
theorem dX11_write_43 : decode cX11_write 43 = .ok (.iload_n 2, 1) := by decide +kernel
theorem dX11_write_44 : decode cX11_write 44 = .ok (.iadd, 1) := by decide +kernel
theorem dX11_write_45 : decode cX11_write 45 = .ok (.aload_n 0, 1) := by decide +kernel
theorem dX11_write_46 : decode cX11_write 46 = .ok (.getfield 50, 3) := by decide +kernel
theorem dX11_write_49 : decode cX11_write 49 = .ok (.iload_n 1, 1) := by decide +kernel
theorem dX11_write_50 : decode cX11_write 50 = .ok (.iaload, 1) := by decide +kernel
theorem dX11_write_51 : decode cX11_write 51 = .ok (.iload_n 3, 1) := by decide +kernel
theorem dX11_write_52 : decode cX11_write 52 = .ok (.invokestatic 327, 3) := by decide +kernel
theorem dX11_write_55 : decode cX11_write 55 = .ok (.lastore, 1) := by decide +kernel
theorem dX11_write_56 : decode cX11_write 56 = .ok (.iconst 1, 1) := by decide +kernel
theorem dX11_write_57 : decode cX11_write 57 = .ok (.ireturn, 1) := by decide +kernel
theorem dX11_narrowed_0 : decode cX11_narrowed 0 = .ok (.iload_n 0, 1) := by decide +kernel
theorem dX11_narrowed_1 : decode cX11_narrowed 1 = .ok (.tableswitch 42 0 3 #[31, 35, 39, 39], 31) := by decide +kernel
theorem dX11_narrowed_32 : decode cX11_narrowed 32 = .ok (.iload_n 1, 1) := by decide +kernel
theorem dX11_narrowed_33 : decode cX11_narrowed 33 = .ok (.i2b, 1) := by decide +kernel
theorem dX11_narrowed_34 : decode cX11_narrowed 34 = .ok (.i2l, 1) := by decide +kernel
theorem dX11_narrowed_35 : decode cX11_narrowed 35 = .ok (.lreturn, 1) := by decide +kernel
theorem dX11_narrowed_36 : decode cX11_narrowed 36 = .ok (.iload_n 1, 1) := by decide +kernel
theorem dX11_narrowed_37 : decode cX11_narrowed 37 = .ok (.i2s, 1) := by decide +kernel
theorem dX11_narrowed_38 : decode cX11_narrowed 38 = .ok (.i2l, 1) := by decide +kernel
theorem dX11_narrowed_39 : decode cX11_narrowed 39 = .ok (.lreturn, 1) := by decide +kernel
theorem dX11_narrowed_40 : decode cX11_narrowed 40 = .ok (.iload_n 1, 1) := by decide +kernel
theorem dX11_narrowed_41 : decode cX11_narrowed 41 = .ok (.i2l, 1) := by decide +kernel
theorem dX11_narrowed_42 : decode cX11_narrowed 42 = .ok (.lreturn, 1) := by decide +kernel
theorem dX11_narrowed_43 : decode cX11_narrowed 43 = .ok (.iload_n 1, 1) := by decide +kernel
theorem dX11_narrowed_44 : decode cX11_narrowed 44 = .ok (.ifCond .eq 7, 3) := by decide +kernel
theorem dX11_narrowed_47 : decode cX11_narrowed 47 = .ok (.lconst 1, 1) := by decide +kernel
theorem dX11_narrowed_48 : decode cX11_narrowed 48 = .ok (.goto 4, 3) := by decide +kernel
theorem dX11_narrowed_51 : decode cX11_narrowed 51 = .ok (.lconst 0, 1) := by decide +kernel
theorem dX11_narrowed_52 : decode cX11_narrowed 52 = .ok (.lreturn, 1) := by decide +kernel
theorem dX11_item_0 : decode cX11_item 0 = .ok (.iload_n 1, 1) := by decide +kernel
theorem dX11_item_1 : decode cX11_item 1 = .ok (.iconst 3, 1) := by decide +kernel
theorem dX11_item_2 : decode cX11_item 2 = .ok (.invokestatic 79, 3) := by decide +kernel
theorem dX11_item_5 : decode cX11_item 5 = .ok (.ifCond .eq 11, 3) := by decide +kernel
theorem dX11_item_8 : decode cX11_item 8 = .ok (.iload_n 2, 1) := by decide +kernel
theorem dX11_item_9 : decode cX11_item 9 = .ok (.iconst 4, 1) := by decide +kernel
theorem dX11_item_10 : decode cX11_item 10 = .ok (.invokestatic 79, 3) := by decide +kernel
theorem dX11_item_13 : decode cX11_item 13 = .ok (.ifCond .ne 5, 3) := by decide +kernel
theorem dX11_item_16 : decode cX11_item 16 = .ok (.iconst (-1), 1) := by decide +kernel
theorem dX11_item_17 : decode cX11_item 17 = .ok (.ireturn, 1) := by decide +kernel
theorem dX11_item_18 : decode cX11_item 18 = .ok (.aload_n 0, 1) := by decide +kernel
theorem dX11_item_19 : decode cX11_item 19 = .ok (.iload_n 1, 1) := by decide +kernel
theorem dX11_item_20 : decode cX11_item 20 = .ok (.iload_n 2, 1) := by decide +kernel
theorem dX11_item_21 : decode cX11_item 21 = .ok (.invokevirtual 331, 3) := by decide +kernel
theorem dX11_item_24 : decode cX11_item 24 = .ok (.istore 4, 2) := by decide +kernel
theorem dX11_item_26 : decode cX11_item 26 = .ok (.iload 4, 2) := by decide +kernel
theorem dX11_item_28 : decode cX11_item 28 = .ok (.ifCond .eq 6, 3) := by decide +kernel
theorem dX11_item_31 : decode cX11_item 31 = .ok (.iload 4, 2) := by decide +kernel
theorem dX11_item_33 : decode cX11_item 33 = .ok (.ireturn, 1) := by decide +kernel
theorem dX11_item_34 : decode cX11_item 34 = .ok (.aload_n 0, 1) := by decide +kernel
theorem dX11_item_35 : decode cX11_item 35 = .ok (.iload_n 1, 1) := by decide +kernel
theorem dX11_item_36 : decode cX11_item 36 = .ok (.iload_n 3, 1) := by decide +kernel
theorem dX11_item_37 : decode cX11_item 37 = .ok (.invokevirtual 324, 3) := by decide +kernel
theorem dX11_item_40 : decode cX11_item 40 = .ok (.ifCond .eq 18, 3) := by decide +kernel
theorem dX11_item_43 : decode cX11_item 43 = .ok (.aload_n 0, 1) := by decide +kernel
theorem dX11_item_44 : decode cX11_item 44 = .ok (.getfield 56, 3) := by decide +kernel
theorem dX11_item_47 : decode cX11_item 47 = .ok (.iload_n 1, 1) := by decide +kernel
theorem dX11_item_48 : decode cX11_item 48 = .ok (.bipush 40, 2) := by decide +kernel
theorem dX11_item_50 : decode cX11_item 50 = .ok (.imul, 1) := by decide +kernel
theorem dX11_item_51 : decode cX11_item 51 = .ok (.iload_n 3, 1) := by decide +kernel
theorem dX11_item_52 : decode cX11_item 52 = .ok (.iadd, 1) := by decide +kernel
theorem dX11_item_53 : decode cX11_item 53 = .ok (.laload, 1) := by decide +kernel
theorem dX11_item_54 : decode cX11_item 54 = .ok (.l2i, 1) := by decide +kernel
theorem dX11_item_55 : decode cX11_item 55 = .ok (.goto 5, 3) := by decide +kernel
theorem dX11_item_58 : decode cX11_item 58 = .ok (.bipush (-12), 2) := by decide +kernel
theorem dX11_item_60 : decode cX11_item 60 = .ok (.ireturn, 1) := by decide +kernel
theorem dX11_refusalAs_0 : decode cX11_refusalAs 0 = .ok (.aload_n 0, 1) := by decide +kernel
theorem dX11_refusalAs_1 : decode cX11_refusalAs 1 = .ok (.getfield 50, 3) := by decide +kernel
theorem dX11_refusalAs_4 : decode cX11_refusalAs 4 = .ok (.iload_n 1, 1) := by decide +kernel
theorem dX11_refusalAs_5 : decode cX11_refusalAs 5 = .ok (.iaload, 1) := by decide +kernel
theorem dX11_refusalAs_6 : decode cX11_refusalAs 6 = .ok (.iconst (-1), 1) := by decide +kernel
theorem dX11_refusalAs_7 : decode cX11_refusalAs 7 = .ok (.if_icmp .ne 6, 3) := by decide +kernel
theorem dX11_refusalAs_10 : decode cX11_refusalAs 10 = .ok (.bipush (-11), 2) := by decide +kernel
theorem dX11_refusalAs_12 : decode cX11_refusalAs 12 = .ok (.ireturn, 1) := by decide +kernel
theorem dX11_refusalAs_13 : decode cX11_refusalAs 13 = .ok (.aload_n 0, 1) := by decide +kernel
theorem dX11_refusalAs_14 : decode cX11_refusalAs 14 = .ok (.getfield 50, 3) := by decide +kernel
theorem dX11_refusalAs_17 : decode cX11_refusalAs 17 = .ok (.iload_n 1, 1) := by decide +kernel
theorem dX11_refusalAs_18 : decode cX11_refusalAs 18 = .ok (.iaload, 1) := by decide +kernel
theorem dX11_refusalAs_19 : decode cX11_refusalAs 19 = .ok (.iload_n 2, 1) := by decide +kernel
theorem dX11_refusalAs_20 : decode cX11_refusalAs 20 = .ok (.if_icmp .ne 7, 3) := by decide +kernel
theorem dX11_refusalAs_23 : decode cX11_refusalAs 23 = .ok (.iconst 0, 1) := by decide +kernel
theorem dX11_refusalAs_24 : decode cX11_refusalAs 24 = .ok (.goto 5, 3) := by decide +kernel
theorem dX11_refusalAs_27 : decode cX11_refusalAs 27 = .ok (.bipush (-13), 2) := by decide +kernel
theorem dX11_refusalAs_29 : decode cX11_refusalAs 29 = .ok (.ireturn, 1) := by decide +kernel
theorem dX11_hasItem_0 : decode cX11_hasItem 0 = .ok (.iload_n 2, 1) := by decide +kernel
theorem dX11_hasItem_1 : decode cX11_hasItem 1 = .ok (.ifCond .lt 17, 3) := by decide +kernel
theorem dX11_hasItem_4 : decode cX11_hasItem 4 = .ok (.iload_n 2, 1) := by decide +kernel
theorem dX11_hasItem_5 : decode cX11_hasItem 5 = .ok (.aload_n 0, 1) := by decide +kernel
theorem dX11_hasItem_6 : decode cX11_hasItem 6 = .ok (.getfield 53, 3) := by decide +kernel
theorem dX11_hasItem_9 : decode cX11_hasItem 9 = .ok (.iload_n 1, 1) := by decide +kernel
theorem dX11_hasItem_10 : decode cX11_hasItem 10 = .ok (.iaload, 1) := by decide +kernel
theorem dX11_hasItem_11 : decode cX11_hasItem 11 = .ok (.if_icmp .ge 7, 3) := by decide +kernel
theorem dX11_hasItem_14 : decode cX11_hasItem 14 = .ok (.iconst 1, 1) := by decide +kernel
theorem dX11_hasItem_15 : decode cX11_hasItem 15 = .ok (.goto 4, 3) := by decide +kernel
theorem dX11_hasItem_18 : decode cX11_hasItem 18 = .ok (.iconst 0, 1) := by decide +kernel
theorem dX11_hasItem_19 : decode cX11_hasItem 19 = .ok (.ireturn, 1) := by decide +kernel
theorem dX11_goAll_0 : decode cX11_goAll 0 = .ok (.iload_n 1, 1) := by decide +kernel
theorem dX11_goAll_1 : decode cX11_goAll 1 = .ok (.iconst 3, 1) := by decide +kernel
theorem dX11_goAll_2 : decode cX11_goAll 2 = .ok (.invokestatic 79, 3) := by decide +kernel
theorem dX11_goAll_5 : decode cX11_goAll 5 = .ok (.ifCond .eq 12, 3) := by decide +kernel
theorem dX11_goAll_8 : decode cX11_goAll 8 = .ok (.iload_n 3, 1) := by decide +kernel
theorem dX11_goAll_9 : decode cX11_goAll 9 = .ok (.bipush 20, 2) := by decide +kernel
theorem dX11_goAll_11 : decode cX11_goAll 11 = .ok (.invokestatic 79, 3) := by decide +kernel
theorem dX11_goAll_14 : decode cX11_goAll 14 = .ok (.ifCond .ne 5, 3) := by decide +kernel
theorem dX11_goAll_17 : decode cX11_goAll 17 = .ok (.iconst (-1), 1) := by decide +kernel
theorem dX11_goAll_18 : decode cX11_goAll 18 = .ok (.ireturn, 1) := by decide +kernel
theorem dX11_goAll_19 : decode cX11_goAll 19 = .ok (.aload_n 0, 1) := by decide +kernel
theorem dX11_goAll_20 : decode cX11_goAll 20 = .ok (.iload_n 1, 1) := by decide +kernel
theorem dX11_goAll_21 : decode cX11_goAll 21 = .ok (.iconst 0, 1) := by decide +kernel
theorem dX11_goAll_22 : decode cX11_goAll 22 = .ok (.invokevirtual 331, 3) := by decide +kernel
theorem dX11_goAll_25 : decode cX11_goAll 25 = .ok (.istore 4, 2) := by decide +kernel
theorem dX11_goAll_27 : decode cX11_goAll 27 = .ok (.iload 4, 2) := by decide +kernel
theorem dX11_goAll_29 : decode cX11_goAll 29 = .ok (.ifCond .eq 6, 3) := by decide +kernel
theorem dX11_goAll_32 : decode cX11_goAll 32 = .ok (.iload 4, 2) := by decide +kernel
theorem dX11_goAll_34 : decode cX11_goAll 34 = .ok (.ireturn, 1) := by decide +kernel
theorem dX11_goAll_35 : decode cX11_goAll 35 = .ok (.iconst 0, 1) := by decide +kernel
theorem dX11_goAll_36 : decode cX11_goAll 36 = .ok (.istore 5, 2) := by decide +kernel
theorem dX11_goAll_38 : decode cX11_goAll 38 = .ok (.iconst 0, 1) := by decide +kernel
theorem dX11_goAll_39 : decode cX11_goAll 39 = .ok (.istore 6, 2) := by decide +kernel
theorem dX11_goAll_41 : decode cX11_goAll 41 = .ok (.iload 6, 2) := by decide +kernel
theorem dX11_goAll_43 : decode cX11_goAll 43 = .ok (.iload_n 3, 1) := by decide +kernel
theorem dX11_goAll_44 : decode cX11_goAll 44 = .ok (.if_icmp .ge 81, 3) := by decide +kernel
theorem dX11_goAll_47 : decode cX11_goAll 47 = .ok (.aload_n 0, 1) := by decide +kernel
theorem dX11_goAll_48 : decode cX11_goAll 48 = .ok (.iload_n 1, 1) := by decide +kernel
theorem dX11_goAll_49 : decode cX11_goAll 49 = .ok (.iload_n 2, 1) := by decide +kernel
theorem dX11_goAll_50 : decode cX11_goAll 50 = .ok (.iload 6, 2) := by decide +kernel
theorem dX11_goAll_52 : decode cX11_goAll 52 = .ok (.iadd, 1) := by decide +kernel
theorem dX11_goAll_53 : decode cX11_goAll 53 = .ok (.invokevirtual 324, 3) := by decide +kernel
theorem dX11_goAll_56 : decode cX11_goAll 56 = .ok (.ifCond .ne 6, 3) := by decide +kernel
theorem dX11_goAll_59 : decode cX11_goAll 59 = .ok (.bipush (-12), 2) := by decide +kernel
theorem dX11_goAll_61 : decode cX11_goAll 61 = .ok (.ireturn, 1) := by decide +kernel
theorem dX11_goAll_62 : decode cX11_goAll 62 = .ok (.aload_n 0, 1) := by decide +kernel
theorem dX11_goAll_63 : decode cX11_goAll 63 = .ok (.getfield 56, 3) := by decide +kernel
theorem dX11_goAll_66 : decode cX11_goAll 66 = .ok (.iload_n 1, 1) := by decide +kernel
theorem dX11_goAll_67 : decode cX11_goAll 67 = .ok (.bipush 40, 2) := by decide +kernel
theorem dX11_goAll_69 : decode cX11_goAll 69 = .ok (.imul, 1) := by decide +kernel
theorem dX11_goAll_70 : decode cX11_goAll 70 = .ok (.iload_n 2, 1) := by decide +kernel
theorem dX11_goAll_71 : decode cX11_goAll 71 = .ok (.iadd, 1) := by decide +kernel
theorem dX11_goAll_72 : decode cX11_goAll 72 = .ok (.iload 6, 2) := by decide +kernel
theorem dX11_goAll_74 : decode cX11_goAll 74 = .ok (.iadd, 1) := by decide +kernel
theorem dX11_goAll_75 : decode cX11_goAll 75 = .ok (.laload, 1) := by decide +kernel
theorem dX11_goAll_76 : decode cX11_goAll 76 = .ok (.l2i, 1) := by decide +kernel
theorem dX11_goAll_77 : decode cX11_goAll 77 = .ok (.istore 7, 2) := by decide +kernel
theorem dX11_goAll_79 : decode cX11_goAll 79 = .ok (.aload_n 0, 1) := by decide +kernel
theorem dX11_goAll_80 : decode cX11_goAll 80 = .ok (.getfield 10, 3) := by decide +kernel
theorem dX11_goAll_83 : decode cX11_goAll 83 = .ok (.iload 7, 2) := by decide +kernel
theorem dX11_goAll_85 : decode cX11_goAll 85 = .ok (.invokevirtual 318, 3) := by decide +kernel
theorem dX11_goAll_88 : decode cX11_goAll 88 = .ok (.ifCond .eq 31, 3) := by decide +kernel
theorem dX11_goAll_91 : decode cX11_goAll 91 = .ok (.aload_n 0, 1) := by decide +kernel
theorem dX11_goAll_92 : decode cX11_goAll 92 = .ok (.getfield 10, 3) := by decide +kernel
theorem dX11_goAll_95 : decode cX11_goAll 95 = .ok (.invokevirtual 170, 3) := by decide +kernel
theorem dX11_goAll_98 : decode cX11_goAll 98 = .ok (.ifCond .ne 21, 3) := by decide +kernel
theorem dX11_goAll_101 : decode cX11_goAll 101 = .ok (.iload 5, 2) := by decide +kernel
theorem dX11_goAll_103 : decode cX11_goAll 103 = .ok (.aload_n 0, 1) := by decide +kernel
theorem dX11_goAll_104 : decode cX11_goAll 104 = .ok (.aload_n 0, 1) := by decide +kernel
theorem dX11_goAll_105 : decode cX11_goAll 105 = .ok (.getfield 10, 3) := by decide +kernel
theorem dX11_goAll_108 : decode cX11_goAll 108 = .ok (.iload 7, 2) := by decide +kernel
theorem dX11_goAll_110 : decode cX11_goAll 110 = .ok (.invokevirtual 309, 3) := by decide +kernel
theorem dX11_goAll_113 : decode cX11_goAll 113 = .ok (.invokevirtual 206, 3) := by decide +kernel
theorem dX11_goAll_116 : decode cX11_goAll 116 = .ok (.iadd, 1) := by decide +kernel
theorem dX11_goAll_117 : decode cX11_goAll 117 = .ok (.istore 5, 2) := by decide +kernel
theorem dX11_goAll_119 : decode cX11_goAll 119 = .ok (.iinc 6 1, 3) := by decide +kernel
theorem dX11_goAll_122 : decode cX11_goAll 122 = .ok (.goto (-81), 3) := by decide +kernel
theorem dX11_goAll_125 : decode cX11_goAll 125 = .ok (.iload 5, 2) := by decide +kernel
theorem dX11_goAll_127 : decode cX11_goAll 127 = .ok (.ireturn, 1) := by decide +kernel
theorem dX11_wouldBe_0 : decode cX11_wouldBe 0 = .ok (.iload_n 1, 1) := by decide +kernel
theorem dX11_wouldBe_1 : decode cX11_wouldBe 1 = .ok (.iconst 3, 1) := by decide +kernel
theorem dX11_wouldBe_2 : decode cX11_wouldBe 2 = .ok (.invokestatic 79, 3) := by decide +kernel
theorem dX11_wouldBe_5 : decode cX11_wouldBe 5 = .ok (.ifCond .eq 12, 3) := by decide +kernel
theorem dX11_wouldBe_8 : decode cX11_wouldBe 8 = .ok (.iload_n 3, 1) := by decide +kernel
theorem dX11_wouldBe_9 : decode cX11_wouldBe 9 = .ok (.bipush 20, 2) := by decide +kernel
theorem dX11_wouldBe_11 : decode cX11_wouldBe 11 = .ok (.invokestatic 79, 3) := by decide +kernel
theorem dX11_wouldBe_14 : decode cX11_wouldBe 14 = .ok (.ifCond .ne 5, 3) := by decide +kernel
theorem dX11_wouldBe_17 : decode cX11_wouldBe 17 = .ok (.iconst (-1), 1) := by decide +kernel
theorem dX11_wouldBe_18 : decode cX11_wouldBe 18 = .ok (.ireturn, 1) := by decide +kernel
theorem dX11_wouldBe_19 : decode cX11_wouldBe 19 = .ok (.aload_n 0, 1) := by decide +kernel
theorem dX11_wouldBe_20 : decode cX11_wouldBe 20 = .ok (.iload_n 1, 1) := by decide +kernel
theorem dX11_wouldBe_21 : decode cX11_wouldBe 21 = .ok (.iconst 0, 1) := by decide +kernel
theorem dX11_wouldBe_22 : decode cX11_wouldBe 22 = .ok (.invokevirtual 331, 3) := by decide +kernel
theorem dX11_wouldBe_25 : decode cX11_wouldBe 25 = .ok (.istore 4, 2) := by decide +kernel
theorem dX11_wouldBe_27 : decode cX11_wouldBe 27 = .ok (.iload 4, 2) := by decide +kernel
theorem dX11_wouldBe_29 : decode cX11_wouldBe 29 = .ok (.ifCond .eq 6, 3) := by decide +kernel
theorem dX11_wouldBe_32 : decode cX11_wouldBe 32 = .ok (.iload 4, 2) := by decide +kernel
theorem dX11_wouldBe_34 : decode cX11_wouldBe 34 = .ok (.ireturn, 1) := by decide +kernel
theorem dX11_wouldBe_35 : decode cX11_wouldBe 35 = .ok (.aload_n 0, 1) := by decide +kernel
theorem dX11_wouldBe_36 : decode cX11_wouldBe 36 = .ok (.getfield 10, 3) := by decide +kernel
theorem dX11_wouldBe_39 : decode cX11_wouldBe 39 = .ok (.invokevirtual 209, 3) := by decide +kernel
theorem dX11_wouldBe_42 : decode cX11_wouldBe 42 = .ok (.istore 5, 2) := by decide +kernel
theorem dX11_wouldBe_44 : decode cX11_wouldBe 44 = .ok (.aload_n 0, 1) := by decide +kernel
theorem dX11_wouldBe_45 : decode cX11_wouldBe 45 = .ok (.iload_n 1, 1) := by decide +kernel
theorem dX11_wouldBe_46 : decode cX11_wouldBe 46 = .ok (.iload_n 2, 1) := by decide +kernel
theorem dX11_wouldBe_47 : decode cX11_wouldBe 47 = .ok (.iload_n 3, 1) := by decide +kernel
theorem dX11_wouldBe_48 : decode cX11_wouldBe 48 = .ok (.invokevirtual 334, 3) := by decide +kernel
theorem dX11_wouldBe_51 : decode cX11_wouldBe 51 = .ok (.istore 6, 2) := by decide +kernel
theorem dX11_wouldBe_53 : decode cX11_wouldBe 53 = .ok (.aload_n 0, 1) := by decide +kernel
theorem dX11_wouldBe_54 : decode cX11_wouldBe 54 = .ok (.getfield 10, 3) := by decide +kernel
theorem dX11_wouldBe_57 : decode cX11_wouldBe 57 = .ok (.iload 5, 2) := by decide +kernel
theorem dX11_wouldBe_59 : decode cX11_wouldBe 59 = .ok (.invokevirtual 215, 3) := by decide +kernel
theorem dX11_wouldBe_62 : decode cX11_wouldBe 62 = .ok (.iload 6, 2) := by decide +kernel
theorem dX11_wouldBe_64 : decode cX11_wouldBe 64 = .ok (.ireturn, 1) := by decide +kernel
theorem dX11_worthOfItems_0 : decode cX11_worthOfItems 0 = .ok (.iconst 0, 1) := by decide +kernel
theorem dX11_worthOfItems_1 : decode cX11_worthOfItems 1 = .ok (.istore 4, 2) := by decide +kernel
theorem dX11_worthOfItems_3 : decode cX11_worthOfItems 3 = .ok (.iconst 0, 1) := by decide +kernel
theorem dX11_worthOfItems_4 : decode cX11_worthOfItems 4 = .ok (.istore 5, 2) := by decide +kernel
theorem dX11_worthOfItems_6 : decode cX11_worthOfItems 6 = .ok (.iload 5, 2) := by decide +kernel
theorem dX11_worthOfItems_8 : decode cX11_worthOfItems 8 = .ok (.iload_n 3, 1) := by decide +kernel
theorem dX11_worthOfItems_9 : decode cX11_worthOfItems 9 = .ok (.if_icmp .ge 80, 3) := by decide +kernel
theorem dX11_worthOfItems_12 : decode cX11_worthOfItems 12 = .ok (.aload_n 0, 1) := by decide +kernel
theorem dX11_worthOfItems_13 : decode cX11_worthOfItems 13 = .ok (.iload_n 1, 1) := by decide +kernel
theorem dX11_worthOfItems_14 : decode cX11_worthOfItems 14 = .ok (.iload_n 2, 1) := by decide +kernel
theorem dX11_worthOfItems_15 : decode cX11_worthOfItems 15 = .ok (.iload 5, 2) := by decide +kernel
theorem dX11_worthOfItems_17 : decode cX11_worthOfItems 17 = .ok (.iadd, 1) := by decide +kernel
theorem dX11_worthOfItems_18 : decode cX11_worthOfItems 18 = .ok (.invokevirtual 324, 3) := by decide +kernel
theorem dX11_worthOfItems_21 : decode cX11_worthOfItems 21 = .ok (.ifCond .ne 6, 3) := by decide +kernel
theorem dX11_worthOfItems_24 : decode cX11_worthOfItems 24 = .ok (.bipush (-12), 2) := by decide +kernel
theorem dX11_worthOfItems_26 : decode cX11_worthOfItems 26 = .ok (.ireturn, 1) := by decide +kernel
theorem dX11_worthOfItems_27 : decode cX11_worthOfItems 27 = .ok (.aload_n 0, 1) := by decide +kernel
theorem dX11_worthOfItems_28 : decode cX11_worthOfItems 28 = .ok (.getfield 56, 3) := by decide +kernel
theorem dX11_worthOfItems_31 : decode cX11_worthOfItems 31 = .ok (.iload_n 1, 1) := by decide +kernel
theorem dX11_worthOfItems_32 : decode cX11_worthOfItems 32 = .ok (.bipush 40, 2) := by decide +kernel
theorem dX11_worthOfItems_34 : decode cX11_worthOfItems 34 = .ok (.imul, 1) := by decide +kernel
theorem dX11_worthOfItems_35 : decode cX11_worthOfItems 35 = .ok (.iload_n 2, 1) := by decide +kernel
theorem dX11_worthOfItems_36 : decode cX11_worthOfItems 36 = .ok (.iadd, 1) := by decide +kernel
theorem dX11_worthOfItems_37 : decode cX11_worthOfItems 37 = .ok (.iload 5, 2) := by decide +kernel
theorem dX11_worthOfItems_39 : decode cX11_worthOfItems 39 = .ok (.iadd, 1) := by decide +kernel
theorem dX11_worthOfItems_40 : decode cX11_worthOfItems 40 = .ok (.laload, 1) := by decide +kernel
theorem dX11_worthOfItems_41 : decode cX11_worthOfItems 41 = .ok (.l2i, 1) := by decide +kernel
theorem dX11_worthOfItems_42 : decode cX11_worthOfItems 42 = .ok (.istore 6, 2) := by decide +kernel
theorem dX11_worthOfItems_44 : decode cX11_worthOfItems 44 = .ok (.aload_n 0, 1) := by decide +kernel
theorem dX11_worthOfItems_45 : decode cX11_worthOfItems 45 = .ok (.getfield 10, 3) := by decide +kernel
theorem dX11_worthOfItems_48 : decode cX11_worthOfItems 48 = .ok (.iload 6, 2) := by decide +kernel
theorem dX11_worthOfItems_50 : decode cX11_worthOfItems 50 = .ok (.invokevirtual 318, 3) := by decide +kernel
theorem dX11_worthOfItems_53 : decode cX11_worthOfItems 53 = .ok (.ifCond .eq 13, 3) := by decide +kernel
theorem dX11_worthOfItems_56 : decode cX11_worthOfItems 56 = .ok (.aload_n 0, 1) := by decide +kernel
theorem dX11_worthOfItems_57 : decode cX11_worthOfItems 57 = .ok (.getfield 10, 3) := by decide +kernel
theorem dX11_worthOfItems_60 : decode cX11_worthOfItems 60 = .ok (.invokevirtual 170, 3) := by decide +kernel
theorem dX11_worthOfItems_63 : decode cX11_worthOfItems 63 = .ok (.ifCond .eq 6, 3) := by decide +kernel
theorem dX11_worthOfItems_66 : decode cX11_worthOfItems 66 = .ok (.bipush (-4), 2) := by decide +kernel
theorem dX11_worthOfItems_68 : decode cX11_worthOfItems 68 = .ok (.ireturn, 1) := by decide +kernel
theorem dX11_worthOfItems_69 : decode cX11_worthOfItems 69 = .ok (.iload 4, 2) := by decide +kernel
theorem dX11_worthOfItems_71 : decode cX11_worthOfItems 71 = .ok (.aload_n 0, 1) := by decide +kernel
theorem dX11_worthOfItems_72 : decode cX11_worthOfItems 72 = .ok (.getfield 10, 3) := by decide +kernel
theorem dX11_worthOfItems_75 : decode cX11_worthOfItems 75 = .ok (.iload 6, 2) := by decide +kernel
theorem dX11_worthOfItems_77 : decode cX11_worthOfItems 77 = .ok (.invokevirtual 309, 3) := by decide +kernel
theorem dX11_worthOfItems_80 : decode cX11_worthOfItems 80 = .ok (.iadd, 1) := by decide +kernel
theorem dX11_worthOfItems_81 : decode cX11_worthOfItems 81 = .ok (.istore 4, 2) := by decide +kernel
theorem dX11_worthOfItems_83 : decode cX11_worthOfItems 83 = .ok (.iinc 5 1, 3) := by decide +kernel
theorem dX11_worthOfItems_86 : decode cX11_worthOfItems 86 = .ok (.goto (-80), 3) := by decide +kernel
theorem dX11_worthOfItems_89 : decode cX11_worthOfItems 89 = .ok (.iload 4, 2) := by decide +kernel
theorem dX11_worthOfItems_91 : decode cX11_worthOfItems 91 = .ok (.ireturn, 1) := by decide +kernel
theorem dX11_shelf_0 : decode cX11_shelf 0 = .ok (.iload_n 1, 1) := by decide +kernel
theorem dX11_shelf_1 : decode cX11_shelf 1 = .ok (.iconst 3, 1) := by decide +kernel
theorem dX11_shelf_2 : decode cX11_shelf 2 = .ok (.invokestatic 79, 3) := by decide +kernel
theorem dX11_shelf_5 : decode cX11_shelf 5 = .ok (.ifCond .eq 11, 3) := by decide +kernel
theorem dX11_shelf_8 : decode cX11_shelf 8 = .ok (.iload_n 2, 1) := by decide +kernel
theorem dX11_shelf_9 : decode cX11_shelf 9 = .ok (.iconst 2, 1) := by decide +kernel
theorem dX11_shelf_10 : decode cX11_shelf 10 = .ok (.invokestatic 79, 3) := by decide +kernel
theorem dX11_shelf_13 : decode cX11_shelf 13 = .ok (.ifCond .ne 5, 3) := by decide +kernel
theorem dX11_shelf_16 : decode cX11_shelf 16 = .ok (.iconst (-1), 1) := by decide +kernel
theorem dX11_shelf_17 : decode cX11_shelf 17 = .ok (.ireturn, 1) := by decide +kernel
theorem dX11_shelf_18 : decode cX11_shelf 18 = .ok (.iload_n 2, 1) := by decide +kernel
theorem dX11_shelf_19 : decode cX11_shelf 19 = .ok (.ifCond .ne 27, 3) := by decide +kernel
theorem dX11_shelf_22 : decode cX11_shelf 22 = .ok (.aload_n 0, 1) := by decide +kernel
theorem dX11_shelf_23 : decode cX11_shelf 23 = .ok (.getfield 10, 3) := by decide +kernel
theorem dX11_shelf_26 : decode cX11_shelf 26 = .ok (.iload_n 3, 1) := by decide +kernel
theorem dX11_shelf_27 : decode cX11_shelf 27 = .ok (.invokevirtual 91, 3) := by decide +kernel
theorem dX11_shelf_30 : decode cX11_shelf 30 = .ok (.ifCond .eq 14, 3) := by decide +kernel
theorem dX11_shelf_33 : decode cX11_shelf 33 = .ok (.aload_n 0, 1) := by decide +kernel
theorem dX11_shelf_34 : decode cX11_shelf 34 = .ok (.iload_n 1, 1) := by decide +kernel
theorem dX11_shelf_35 : decode cX11_shelf 35 = .ok (.iconst 1, 1) := by decide +kernel
theorem dX11_shelf_36 : decode cX11_shelf 36 = .ok (.iconst 0, 1) := by decide +kernel
theorem dX11_shelf_37 : decode cX11_shelf 37 = .ok (.iload_n 3, 1) := by decide +kernel
theorem dX11_shelf_38 : decode cX11_shelf 38 = .ok (.invokevirtual 337, 3) := by decide +kernel
theorem dX11_shelf_41 : decode cX11_shelf 41 = .ok (.goto 4, 3) := by decide +kernel
theorem dX11_shelf_44 : decode cX11_shelf 44 = .ok (.iconst (-1), 1) := by decide +kernel
theorem dX11_shelf_45 : decode cX11_shelf 45 = .ok (.ireturn, 1) := by decide +kernel
theorem dX11_shelf_46 : decode cX11_shelf 46 = .ok (.iload_n 2, 1) := by decide +kernel
theorem dX11_shelf_47 : decode cX11_shelf 47 = .ok (.iconst 2, 1) := by decide +kernel
theorem dX11_shelf_48 : decode cX11_shelf 48 = .ok (.if_icmp .ne 12, 3) := by decide +kernel
theorem dX11_shelf_51 : decode cX11_shelf 51 = .ok (.aload_n 0, 1) := by decide +kernel
theorem dX11_shelf_52 : decode cX11_shelf 52 = .ok (.iload_n 1, 1) := by decide +kernel
theorem dX11_shelf_53 : decode cX11_shelf 53 = .ok (.iconst 0, 1) := by decide +kernel
theorem dX11_shelf_54 : decode cX11_shelf 54 = .ok (.iconst 0, 1) := by decide +kernel
theorem dX11_shelf_55 : decode cX11_shelf 55 = .ok (.iconst 0, 1) := by decide +kernel
theorem dX11_shelf_56 : decode cX11_shelf 56 = .ok (.invokevirtual 337, 3) := by decide +kernel
theorem dX11_shelf_59 : decode cX11_shelf 59 = .ok (.ireturn, 1) := by decide +kernel
theorem dX11_shelf_60 : decode cX11_shelf 60 = .ok (.iload_n 3, 1) := by decide +kernel
theorem dX11_shelf_61 : decode cX11_shelf 61 = .ok (.iconst 3, 1) := by decide +kernel
theorem dX11_shelf_62 : decode cX11_shelf 62 = .ok (.invokestatic 79, 3) := by decide +kernel
theorem dX11_shelf_65 : decode cX11_shelf 65 = .ok (.ifCond .ne 5, 3) := by decide +kernel
theorem dX11_shelf_68 : decode cX11_shelf 68 = .ok (.iconst (-1), 1) := by decide +kernel
theorem dX11_shelf_69 : decode cX11_shelf 69 = .ok (.ireturn, 1) := by decide +kernel
theorem dX11_shelf_70 : decode cX11_shelf 70 = .ok (.aload_n 0, 1) := by decide +kernel
theorem dX11_shelf_71 : decode cX11_shelf 71 = .ok (.getfield 50, 3) := by decide +kernel
theorem dX11_shelf_74 : decode cX11_shelf 74 = .ok (.iload_n 3, 1) := by decide +kernel
theorem dX11_shelf_75 : decode cX11_shelf 75 = .ok (.iaload, 1) := by decide +kernel
theorem dX11_shelf_76 : decode cX11_shelf 76 = .ok (.iconst (-1), 1) := by decide +kernel
theorem dX11_shelf_77 : decode cX11_shelf 77 = .ok (.if_icmp .ne 12, 3) := by decide +kernel
theorem dX11_shelf_80 : decode cX11_shelf 80 = .ok (.aload_n 0, 1) := by decide +kernel
theorem dX11_shelf_81 : decode cX11_shelf 81 = .ok (.iload_n 1, 1) := by decide +kernel
theorem dX11_shelf_82 : decode cX11_shelf 82 = .ok (.iconst 0, 1) := by decide +kernel
theorem dX11_shelf_83 : decode cX11_shelf 83 = .ok (.iconst 0, 1) := by decide +kernel
theorem dX11_shelf_84 : decode cX11_shelf 84 = .ok (.iconst 0, 1) := by decide +kernel
theorem dX11_shelf_85 : decode cX11_shelf 85 = .ok (.invokevirtual 337, 3) := by decide +kernel
theorem dX11_shelf_88 : decode cX11_shelf 88 = .ok (.ireturn, 1) := by decide +kernel
theorem dX11_shelf_89 : decode cX11_shelf 89 = .ok (.aload_n 0, 1) := by decide +kernel
theorem dX11_shelf_90 : decode cX11_shelf 90 = .ok (.iload_n 1, 1) := by decide +kernel
theorem dX11_shelf_91 : decode cX11_shelf 91 = .ok (.iconst 2, 1) := by decide +kernel
theorem dX11_shelf_92 : decode cX11_shelf 92 = .ok (.aload_n 0, 1) := by decide +kernel
theorem dX11_shelf_93 : decode cX11_shelf 93 = .ok (.getfield 50, 3) := by decide +kernel
theorem dX11_shelf_96 : decode cX11_shelf 96 = .ok (.iload_n 3, 1) := by decide +kernel
theorem dX11_shelf_97 : decode cX11_shelf 97 = .ok (.iaload, 1) := by decide +kernel
theorem dX11_shelf_98 : decode cX11_shelf 98 = .ok (.aload_n 0, 1) := by decide +kernel
theorem dX11_shelf_99 : decode cX11_shelf 99 = .ok (.getfield 53, 3) := by decide +kernel
theorem dX11_shelf_102 : decode cX11_shelf 102 = .ok (.iload_n 3, 1) := by decide +kernel
theorem dX11_shelf_103 : decode cX11_shelf 103 = .ok (.iaload, 1) := by decide +kernel
theorem dX11_shelf_104 : decode cX11_shelf 104 = .ok (.invokevirtual 337, 3) := by decide +kernel
theorem dX11_shelf_107 : decode cX11_shelf 107 = .ok (.ireturn, 1) := by decide +kernel
theorem dX11_put_0 : decode cX11_put 0 = .ok (.aload_n 0, 1) := by decide +kernel
theorem dX11_put_1 : decode cX11_put 1 = .ok (.getfield 60, 3) := by decide +kernel
theorem dX11_put_4 : decode cX11_put 4 = .ok (.iload_n 1, 1) := by decide +kernel
theorem dX11_put_5 : decode cX11_put 5 = .ok (.iload_n 2, 1) := by decide +kernel
theorem dX11_put_6 : decode cX11_put 6 = .ok (.iastore, 1) := by decide +kernel
theorem dX11_put_7 : decode cX11_put 7 = .ok (.aload_n 0, 1) := by decide +kernel
theorem dX11_put_8 : decode cX11_put 8 = .ok (.getfield 63, 3) := by decide +kernel
theorem dX11_put_11 : decode cX11_put 11 = .ok (.iload_n 1, 1) := by decide +kernel
theorem dX11_put_12 : decode cX11_put 12 = .ok (.iload_n 3, 1) := by decide +kernel
theorem dX11_put_13 : decode cX11_put 13 = .ok (.iastore, 1) := by decide +kernel
theorem dX11_put_14 : decode cX11_put 14 = .ok (.aload_n 0, 1) := by decide +kernel
theorem dX11_put_15 : decode cX11_put 15 = .ok (.getfield 66, 3) := by decide +kernel
theorem dX11_put_18 : decode cX11_put 18 = .ok (.iload_n 1, 1) := by decide +kernel
theorem dX11_put_19 : decode cX11_put 19 = .ok (.iload 4, 2) := by decide +kernel
theorem dX11_put_21 : decode cX11_put 21 = .ok (.iastore, 1) := by decide +kernel
theorem dX11_put_22 : decode cX11_put 22 = .ok (.iconst 1, 1) := by decide +kernel
theorem dX11_put_23 : decode cX11_put 23 = .ok (.ireturn, 1) := by decide +kernel
theorem dX11_taken_0 : decode cX11_taken 0 = .ok (.iload_n 2, 1) := by decide +kernel
theorem dX11_taken_1 : decode cX11_taken 1 = .ok (.iconst 5, 1) := by decide +kernel
theorem dX11_taken_2 : decode cX11_taken 2 = .ok (.invokestatic 79, 3) := by decide +kernel
theorem dX11_taken_5 : decode cX11_taken 5 = .ok (.istore_n 3, 1) := by decide +kernel
theorem dX11_taken_6 : decode cX11_taken 6 = .ok (.iload_n 2, 1) := by decide +kernel
theorem dX11_taken_7 : decode cX11_taken 7 = .ok (.bipush 10, 2) := by decide +kernel
theorem dX11_taken_9 : decode cX11_taken 9 = .ok (.if_icmp .lt 13, 3) := by decide +kernel
theorem dX11_taken_12 : decode cX11_taken 12 = .ok (.iload_n 2, 1) := by decide +kernel
theorem dX11_taken_13 : decode cX11_taken 13 = .ok (.bipush 15, 2) := by decide +kernel
theorem dX11_taken_15 : decode cX11_taken 15 = .ok (.if_icmp .ge 7, 3) := by decide +kernel
theorem dX11_taken_18 : decode cX11_taken 18 = .ok (.iconst 1, 1) := by decide +kernel
theorem dX11_taken_19 : decode cX11_taken 19 = .ok (.goto 4, 3) := by decide +kernel
theorem dX11_taken_22 : decode cX11_taken 22 = .ok (.iconst 0, 1) := by decide +kernel
theorem dX11_taken_23 : decode cX11_taken 23 = .ok (.istore 4, 2) := by decide +kernel
theorem dX11_taken_25 : decode cX11_taken 25 = .ok (.iload_n 1, 1) := by decide +kernel
theorem dX11_taken_26 : decode cX11_taken 26 = .ok (.iconst 3, 1) := by decide +kernel
theorem dX11_taken_27 : decode cX11_taken 27 = .ok (.invokestatic 79, 3) := by decide +kernel
theorem dX11_taken_30 : decode cX11_taken 30 = .ok (.ifCond .eq 12, 3) := by decide +kernel
theorem dX11_taken_33 : decode cX11_taken 33 = .ok (.iload_n 3, 1) := by decide +kernel
theorem dX11_taken_34 : decode cX11_taken 34 = .ok (.ifCond .ne 10, 3) := by decide +kernel
theorem dX11_taken_37 : decode cX11_taken 37 = .ok (.iload 4, 2) := by decide +kernel
theorem dX11_taken_39 : decode cX11_taken 39 = .ok (.ifCond .ne 5, 3) := by decide +kernel
theorem dX11_taken_42 : decode cX11_taken 42 = .ok (.iconst (-1), 1) := by decide +kernel
theorem dX11_taken_43 : decode cX11_taken 43 = .ok (.ireturn, 1) := by decide +kernel
theorem dX11_taken_44 : decode cX11_taken 44 = .ok (.aload_n 0, 1) := by decide +kernel
theorem dX11_taken_45 : decode cX11_taken 45 = .ok (.getfield 60, 3) := by decide +kernel
theorem dX11_taken_48 : decode cX11_taken 48 = .ok (.iload_n 1, 1) := by decide +kernel
theorem dX11_taken_49 : decode cX11_taken 49 = .ok (.iaload, 1) := by decide +kernel
theorem dX11_taken_50 : decode cX11_taken 50 = .ok (.iconst 2, 1) := by decide +kernel
theorem dX11_taken_51 : decode cX11_taken 51 = .ok (.if_icmp .ne 31, 3) := by decide +kernel
theorem dX11_taken_54 : decode cX11_taken 54 = .ok (.iload 4, 2) := by decide +kernel
theorem dX11_taken_56 : decode cX11_taken 56 = .ok (.ifCond .eq 20, 3) := by decide +kernel
theorem dX11_taken_59 : decode cX11_taken 59 = .ok (.aload_n 0, 1) := by decide +kernel
theorem dX11_taken_60 : decode cX11_taken 60 = .ok (.getfield 63, 3) := by decide +kernel
theorem dX11_taken_63 : decode cX11_taken 63 = .ok (.iload_n 1, 1) := by decide +kernel
theorem dX11_taken_64 : decode cX11_taken 64 = .ok (.iaload, 1) := by decide +kernel
theorem dX11_taken_65 : decode cX11_taken 65 = .ok (.iload_n 2, 1) := by decide +kernel
theorem dX11_taken_66 : decode cX11_taken 66 = .ok (.bipush 10, 2) := by decide +kernel
theorem dX11_taken_68 : decode cX11_taken 68 = .ok (.isub, 1) := by decide +kernel
theorem dX11_taken_69 : decode cX11_taken 69 = .ok (.if_icmp .ne 7, 3) := by decide +kernel
theorem dX11_taken_72 : decode cX11_taken 72 = .ok (.iconst 1, 1) := by decide +kernel
theorem dX11_taken_73 : decode cX11_taken 73 = .ok (.goto 4, 3) := by decide +kernel
theorem dX11_taken_76 : decode cX11_taken 76 = .ok (.iconst 0, 1) := by decide +kernel
theorem dX11_taken_77 : decode cX11_taken 77 = .ok (.istore 5, 2) := by decide +kernel
theorem dX11_taken_79 : decode cX11_taken 79 = .ok (.goto 49, 3) := by decide +kernel
theorem dX11_taken_82 : decode cX11_taken 82 = .ok (.aload_n 0, 1) := by decide +kernel
theorem dX11_taken_83 : decode cX11_taken 83 = .ok (.iload_n 1, 1) := by decide +kernel
theorem dX11_taken_84 : decode cX11_taken 84 = .ok (.invokevirtual 340, 3) := by decide +kernel
theorem dX11_taken_87 : decode cX11_taken 87 = .ok (.ifCond .eq 38, 3) := by decide +kernel
theorem dX11_taken_90 : decode cX11_taken 90 = .ok (.iload_n 3, 1) := by decide +kernel
theorem dX11_taken_91 : decode cX11_taken 91 = .ok (.ifCond .eq 28, 3) := by decide +kernel
theorem dX11_taken_94 : decode cX11_taken 94 = .ok (.aload_n 0, 1) := by decide +kernel
theorem dX11_taken_95 : decode cX11_taken 95 = .ok (.getfield 10, 3) := by decide +kernel
theorem dX11_taken_98 : decode cX11_taken 98 = .ok (.getfield 94, 3) := by decide +kernel
theorem dX11_taken_101 : decode cX11_taken 101 = .ok (.aload_n 0, 1) := by decide +kernel
theorem dX11_taken_102 : decode cX11_taken 102 = .ok (.getfield 66, 3) := by decide +kernel
theorem dX11_taken_105 : decode cX11_taken 105 = .ok (.iload_n 1, 1) := by decide +kernel
theorem dX11_taken_106 : decode cX11_taken 106 = .ok (.iaload, 1) := by decide +kernel
theorem dX11_taken_107 : decode cX11_taken 107 = .ok (.iaload, 1) := by decide +kernel
theorem dX11_taken_108 : decode cX11_taken 108 = .ok (.iload_n 2, 1) := by decide +kernel
theorem dX11_taken_109 : decode cX11_taken 109 = .ok (.invokestatic 343, 3) := by decide +kernel
theorem dX11_taken_112 : decode cX11_taken 112 = .ok (.ifCond .eq 7, 3) := by decide +kernel
theorem dX11_taken_115 : decode cX11_taken 115 = .ok (.iconst 1, 1) := by decide +kernel
theorem dX11_taken_116 : decode cX11_taken 116 = .ok (.goto 4, 3) := by decide +kernel
theorem dX11_taken_119 : decode cX11_taken 119 = .ok (.iconst 0, 1) := by decide +kernel
theorem dX11_taken_120 : decode cX11_taken 120 = .ok (.istore 5, 2) := by decide +kernel
theorem dX11_taken_122 : decode cX11_taken 122 = .ok (.goto 6, 3) := by decide +kernel
theorem dX11_taken_125 : decode cX11_taken 125 = .ok (.bipush (-11), 2) := by decide +kernel
theorem dX11_taken_127 : decode cX11_taken 127 = .ok (.ireturn, 1) := by decide +kernel
theorem dX11_taken_128 : decode cX11_taken 128 = .ok (.iload 5, 2) := by decide +kernel
theorem dX11_taken_130 : decode cX11_taken 130 = .ok (.ifCond .eq 12, 3) := by decide +kernel
theorem dX11_taken_133 : decode cX11_taken 133 = .ok (.aload_n 0, 1) := by decide +kernel
theorem dX11_taken_134 : decode cX11_taken 134 = .ok (.getfield 66, 3) := by decide +kernel
theorem dX11_taken_137 : decode cX11_taken 137 = .ok (.iload_n 1, 1) := by decide +kernel
theorem dX11_taken_138 : decode cX11_taken 138 = .ok (.iaload, 1) := by decide +kernel
theorem dX11_taken_139 : decode cX11_taken 139 = .ok (.goto 5, 3) := by decide +kernel
theorem dX11_taken_142 : decode cX11_taken 142 = .ok (.bipush (-13), 2) := by decide +kernel
theorem dX11_taken_144 : decode cX11_taken 144 = .ok (.ireturn, 1) := by decide +kernel
theorem dX11_holdsGuild_0 : decode cX11_holdsGuild 0 = .ok (.aload_n 0, 1) := by decide +kernel
theorem dX11_holdsGuild_1 : decode cX11_holdsGuild 1 = .ok (.getfield 60, 3) := by decide +kernel
theorem dX11_holdsGuild_4 : decode cX11_holdsGuild 4 = .ok (.iload_n 1, 1) := by decide +kernel
theorem dX11_holdsGuild_5 : decode cX11_holdsGuild 5 = .ok (.iaload, 1) := by decide +kernel
theorem dX11_holdsGuild_6 : decode cX11_holdsGuild 6 = .ok (.iconst 1, 1) := by decide +kernel
theorem dX11_holdsGuild_7 : decode cX11_holdsGuild 7 = .ok (.if_icmp .ne 23, 3) := by decide +kernel
theorem dX11_holdsGuild_10 : decode cX11_holdsGuild 10 = .ok (.aload_n 0, 1) := by decide +kernel
theorem dX11_holdsGuild_11 : decode cX11_holdsGuild 11 = .ok (.getfield 10, 3) := by decide +kernel
theorem dX11_holdsGuild_14 : decode cX11_holdsGuild 14 = .ok (.aload_n 0, 1) := by decide +kernel
theorem dX11_holdsGuild_15 : decode cX11_holdsGuild 15 = .ok (.getfield 66, 3) := by decide +kernel
theorem dX11_holdsGuild_18 : decode cX11_holdsGuild 18 = .ok (.iload_n 1, 1) := by decide +kernel
theorem dX11_holdsGuild_19 : decode cX11_holdsGuild 19 = .ok (.iaload, 1) := by decide +kernel
theorem dX11_holdsGuild_20 : decode cX11_holdsGuild 20 = .ok (.invokevirtual 91, 3) := by decide +kernel
theorem dX11_holdsGuild_23 : decode cX11_holdsGuild 23 = .ok (.ifCond .eq 7, 3) := by decide +kernel
theorem dX11_holdsGuild_26 : decode cX11_holdsGuild 26 = .ok (.iconst 1, 1) := by decide +kernel
theorem dX11_holdsGuild_27 : decode cX11_holdsGuild 27 = .ok (.goto 4, 3) := by decide +kernel
theorem dX11_holdsGuild_30 : decode cX11_holdsGuild 30 = .ok (.iconst 0, 1) := by decide +kernel
theorem dX11_holdsGuild_31 : decode cX11_holdsGuild 31 = .ok (.ireturn, 1) := by decide +kernel
theorem dX11_act_0 : decode cX11_act 0 = .ok (.aload_n 0, 1) := by decide +kernel
theorem dX11_act_1 : decode cX11_act 1 = .ok (.getfield 38, 3) := by decide +kernel
theorem dX11_act_4 : decode cX11_act 4 = .ok (.invokevirtual 346, 3) := by decide +kernel
theorem dX11_act_7 : decode cX11_act 7 = .ok (.iload_n 1, 1) := by decide +kernel
theorem dX11_act_8 : decode cX11_act 8 = .ok (.iconst 3, 1) := by decide +kernel
theorem dX11_act_9 : decode cX11_act 9 = .ok (.invokestatic 79, 3) := by decide +kernel
theorem dX11_act_12 : decode cX11_act 12 = .ok (.ifCond .eq 19, 3) := by decide +kernel
theorem dX11_act_15 : decode cX11_act 15 = .ok (.iload_n 2, 1) := by decide +kernel
theorem dX11_act_16 : decode cX11_act 16 = .ok (.iconst 3, 1) := by decide +kernel
theorem dX11_act_17 : decode cX11_act 17 = .ok (.invokestatic 79, 3) := by decide +kernel
theorem dX11_act_20 : decode cX11_act 20 = .ok (.ifCond .eq 11, 3) := by decide +kernel
theorem dX11_act_23 : decode cX11_act 23 = .ok (.aload_n 0, 1) := by decide +kernel
theorem dX11_act_24 : decode cX11_act 24 = .ok (.iload_n 1, 1) := by decide +kernel
theorem dX11_act_25 : decode cX11_act 25 = .ok (.invokevirtual 340, 3) := by decide +kernel
theorem dX11_act_28 : decode cX11_act 28 = .ok (.ifCond .ne 5, 3) := by decide +kernel
theorem dX11_act_31 : decode cX11_act 31 = .ok (.iconst 0, 1) := by decide +kernel
theorem dX11_act_32 : decode cX11_act 32 = .ok (.ireturn, 1) := by decide +kernel
theorem dX11_act_33 : decode cX11_act 33 = .ok (.aload_n 0, 1) := by decide +kernel
theorem dX11_act_34 : decode cX11_act 34 = .ok (.getfield 66, 3) := by decide +kernel
theorem dX11_act_37 : decode cX11_act 37 = .ok (.iload_n 1, 1) := by decide +kernel
theorem dX11_act_38 : decode cX11_act 38 = .ok (.iaload, 1) := by decide +kernel
theorem dX11_act_39 : decode cX11_act 39 = .ok (.istore 4, 2) := by decide +kernel
theorem dX11_act_41 : decode cX11_act 41 = .ok (.aload_n 0, 1) := by decide +kernel
theorem dX11_act_42 : decode cX11_act 42 = .ok (.getfield 38, 3) := by decide +kernel
theorem dX11_act_45 : decode cX11_act 45 = .ok (.iload 4, 2) := by decide +kernel
theorem dX11_act_47 : decode cX11_act 47 = .ok (.putfield 349, 3) := by decide +kernel
theorem dX11_act_50 : decode cX11_act 50 = .ok (.aload_n 0, 1) := by decide +kernel
theorem dX11_act_51 : decode cX11_act 51 = .ok (.getfield 38, 3) := by decide +kernel
theorem dX11_act_54 : decode cX11_act 54 = .ok (.aload_n 0, 1) := by decide +kernel
theorem dX11_act_55 : decode cX11_act 55 = .ok (.getfield 10, 3) := by decide +kernel
theorem dX11_act_58 : decode cX11_act 58 = .ok (.getfield 103, 3) := by decide +kernel
theorem dX11_act_61 : decode cX11_act 61 = .ok (.iload 4, 2) := by decide +kernel
theorem dX11_act_63 : decode cX11_act 63 = .ok (.iaload, 1) := by decide +kernel
theorem dX11_act_64 : decode cX11_act 64 = .ok (.putfield 352, 3) := by decide +kernel
theorem dX11_act_67 : decode cX11_act 67 = .ok (.aload_n 0, 1) := by decide +kernel
theorem dX11_act_68 : decode cX11_act 68 = .ok (.getfield 10, 3) := by decide +kernel
theorem dX11_act_71 : decode cX11_act 71 = .ok (.getfield 353, 3) := by decide +kernel
theorem dX11_act_74 : decode cX11_act 74 = .ok (.aload_n 0, 1) := by decide +kernel
theorem dX11_act_75 : decode cX11_act 75 = .ok (.getfield 10, 3) := by decide +kernel
theorem dX11_act_78 : decode cX11_act 78 = .ok (.getfield 94, 3) := by decide +kernel
theorem dX11_act_81 : decode cX11_act 81 = .ok (.iload 4, 2) := by decide +kernel
theorem dX11_act_83 : decode cX11_act 83 = .ok (.iaload, 1) := by decide +kernel
theorem dX11_act_84 : decode cX11_act 84 = .ok (.aaload, 1) := by decide +kernel
theorem dX11_act_85 : decode cX11_act 85 = .ok (.astore 5, 2) := by decide +kernel
theorem dX11_act_87 : decode cX11_act 87 = .ok (.iload_n 2, 1) := by decide +kernel
theorem dX11_act_88 : decode cX11_act 88 = .ok (.tableswitch 73 0 2 #[28, 43, 58], 28) := by decide +kernel
theorem dX11_act_116 : decode cX11_act 116 = .ok (.aload 5, 2) := by decide +kernel
theorem dX11_act_118 : decode cX11_act 118 = .ok (.aload_n 0, 1) := by decide +kernel
theorem dX11_act_119 : decode cX11_act 119 = .ok (.getfield 38, 3) := by decide +kernel
theorem dX11_act_122 : decode cX11_act 122 = .ok (.iload_n 3, 1) := by decide +kernel
theorem dX11_act_123 : decode cX11_act 123 = .ok (.invokevirtual 357, 3) := by decide +kernel
theorem dX11_act_126 : decode cX11_act 126 = .ok (.istore 6, 2) := by decide +kernel
theorem dX11_act_128 : decode cX11_act 128 = .ok (.goto 45, 3) := by decide +kernel
theorem dX11_act_131 : decode cX11_act 131 = .ok (.aload 5, 2) := by decide +kernel
theorem dX11_act_133 : decode cX11_act 133 = .ok (.aload_n 0, 1) := by decide +kernel
theorem dX11_act_134 : decode cX11_act 134 = .ok (.getfield 38, 3) := by decide +kernel
theorem dX11_act_137 : decode cX11_act 137 = .ok (.iload_n 3, 1) := by decide +kernel
theorem dX11_act_138 : decode cX11_act 138 = .ok (.invokevirtual 363, 3) := by decide +kernel
theorem dX11_act_141 : decode cX11_act 141 = .ok (.istore 6, 2) := by decide +kernel
theorem dX11_act_143 : decode cX11_act 143 = .ok (.goto 30, 3) := by decide +kernel
theorem dX11_act_146 : decode cX11_act 146 = .ok (.aload 5, 2) := by decide +kernel
theorem dX11_act_148 : decode cX11_act 148 = .ok (.aload_n 0, 1) := by decide +kernel
theorem dX11_act_149 : decode cX11_act 149 = .ok (.getfield 38, 3) := by decide +kernel
theorem dX11_act_152 : decode cX11_act 152 = .ok (.iload_n 3, 1) := by decide +kernel
theorem dX11_act_153 : decode cX11_act 153 = .ok (.invokevirtual 366, 3) := by decide +kernel
theorem dX11_act_156 : decode cX11_act 156 = .ok (.istore 6, 2) := by decide +kernel
theorem dX11_act_158 : decode cX11_act 158 = .ok (.goto 15, 3) := by decide +kernel
theorem dX11_act_161 : decode cX11_act 161 = .ok (.aload 5, 2) := by decide +kernel
theorem dX11_act_163 : decode cX11_act 163 = .ok (.aload_n 0, 1) := by decide +kernel
theorem dX11_act_164 : decode cX11_act 164 = .ok (.getfield 38, 3) := by decide +kernel
theorem dX11_act_167 : decode cX11_act 167 = .ok (.iload_n 3, 1) := by decide +kernel
theorem dX11_act_168 : decode cX11_act 168 = .ok (.invokevirtual 369, 3) := by decide +kernel
theorem dX11_act_171 : decode cX11_act 171 = .ok (.istore 6, 2) := by decide +kernel
theorem dX11_act_173 : decode cX11_act 173 = .ok (.aload_n 0, 1) := by decide +kernel
theorem dX11_act_174 : decode cX11_act 174 = .ok (.getfield 38, 3) := by decide +kernel
theorem dX11_act_177 : decode cX11_act 177 = .ok (.getfield 372, 3) := by decide +kernel
theorem dX11_act_180 : decode cX11_act 180 = .ok (.ifCond .eq 8, 3) := by decide +kernel
theorem dX11_act_183 : decode cX11_act 183 = .ok (.bipush (-15), 2) := by decide +kernel
theorem dX11_act_185 : decode cX11_act 185 = .ok (.goto 5, 3) := by decide +kernel
theorem dX11_act_188 : decode cX11_act 188 = .ok (.iload 6, 2) := by decide +kernel
theorem dX11_act_190 : decode cX11_act 190 = .ok (.ireturn, 1) := by decide +kernel
theorem dX11_trace_0 : decode cX11_trace 0 = .ok (.iload_n 1, 1) := by decide +kernel
theorem dX11_trace_1 : decode cX11_trace 1 = .ok (.ifCond .lt 26, 3) := by decide +kernel
theorem dX11_trace_4 : decode cX11_trace 4 = .ok (.iload_n 1, 1) := by decide +kernel
theorem dX11_trace_5 : decode cX11_trace 5 = .ok (.aload_n 0, 1) := by decide +kernel
theorem dX11_trace_6 : decode cX11_trace 6 = .ok (.getfield 38, 3) := by decide +kernel
theorem dX11_trace_9 : decode cX11_trace 9 = .ok (.getfield 376, 3) := by decide +kernel
theorem dX11_trace_12 : decode cX11_trace 12 = .ok (.if_icmp .ge 15, 3) := by decide +kernel
theorem dX11_trace_15 : decode cX11_trace 15 = .ok (.aload_n 0, 1) := by decide +kernel
theorem dX11_trace_16 : decode cX11_trace 16 = .ok (.getfield 38, 3) := by decide +kernel
theorem dX11_trace_19 : decode cX11_trace 19 = .ok (.getfield 379, 3) := by decide +kernel
theorem dX11_trace_22 : decode cX11_trace 22 = .ok (.iload_n 1, 1) := by decide +kernel
theorem dX11_trace_23 : decode cX11_trace 23 = .ok (.iaload, 1) := by decide +kernel
theorem dX11_trace_24 : decode cX11_trace 24 = .ok (.goto 5, 3) := by decide +kernel
theorem dX11_trace_27 : decode cX11_trace 27 = .ok (.bipush (-3), 2) := by decide +kernel
theorem dX11_trace_29 : decode cX11_trace 29 = .ok (.ireturn, 1) := by decide +kernel
theorem dX11_many_0 : decode cX11_many 0 = .ok (.iload_n 1, 1) := by decide +kernel
theorem dX11_many_1 : decode cX11_many 1 = .ok (.tableswitch 99 0 6 #[43, 51, 62, 73, 81, 86, 91], 43) := by decide +kernel
theorem dX11_many_44 : decode cX11_many 44 = .ok (.aload_n 0, 1) := by decide +kernel
theorem dX11_many_45 : decode cX11_many 45 = .ok (.getfield 10, 3) := by decide +kernel
theorem dX11_many_48 : decode cX11_many 48 = .ok (.getfield 83, 3) := by decide +kernel
theorem dX11_many_51 : decode cX11_many 51 = .ok (.ireturn, 1) := by decide +kernel
theorem dX11_many_52 : decode cX11_many 52 = .ok (.aload_n 0, 1) := by decide +kernel
theorem dX11_many_53 : decode cX11_many 53 = .ok (.getfield 10, 3) := by decide +kernel
theorem dX11_many_56 : decode cX11_many 56 = .ok (.getfield 186, 3) := by decide +kernel
theorem dX11_many_59 : decode cX11_many 59 = .ok (.getfield 199, 3) := by decide +kernel
theorem dX11_many_62 : decode cX11_many 62 = .ok (.ireturn, 1) := by decide +kernel
theorem dX11_many_63 : decode cX11_many 63 = .ok (.aload_n 0, 1) := by decide +kernel
theorem dX11_many_64 : decode cX11_many 64 = .ok (.getfield 10, 3) := by decide +kernel
theorem dX11_many_67 : decode cX11_many 67 = .ok (.getfield 113, 3) := by decide +kernel
theorem dX11_many_70 : decode cX11_many 70 = .ok (.invokestatic 297, 3) := by decide +kernel
theorem dX11_many_73 : decode cX11_many 73 = .ok (.ireturn, 1) := by decide +kernel
theorem dX11_many_74 : decode cX11_many 74 = .ok (.aload_n 0, 1) := by decide +kernel
theorem dX11_many_75 : decode cX11_many 75 = .ok (.getfield 10, 3) := by decide +kernel
theorem dX11_many_78 : decode cX11_many 78 = .ok (.getfield 276, 3) := by decide +kernel
theorem dX11_many_81 : decode cX11_many 81 = .ok (.ireturn, 1) := by decide +kernel
theorem dX11_many_82 : decode cX11_many 82 = .ok (.aload_n 0, 1) := by decide +kernel
theorem dX11_many_83 : decode cX11_many 83 = .ok (.getfield 306, 3) := by decide +kernel
theorem dX11_many_86 : decode cX11_many 86 = .ok (.ireturn, 1) := by decide +kernel
theorem dX11_many_87 : decode cX11_many 87 = .ok (.aload_n 0, 1) := by decide +kernel
theorem dX11_many_88 : decode cX11_many 88 = .ok (.getfield 174, 3) := by decide +kernel
theorem dX11_many_91 : decode cX11_many 91 = .ok (.ireturn, 1) := by decide +kernel
theorem dX11_many_92 : decode cX11_many 92 = .ok (.aload_n 0, 1) := by decide +kernel
theorem dX11_many_93 : decode cX11_many 93 = .ok (.getfield 38, 3) := by decide +kernel
theorem dX11_many_96 : decode cX11_many 96 = .ok (.getfield 376, 3) := by decide +kernel
theorem dX11_many_99 : decode cX11_many 99 = .ok (.ireturn, 1) := by decide +kernel
theorem dX11_many_100 : decode cX11_many 100 = .ok (.iconst (-1), 1) := by decide +kernel
theorem dX11_many_101 : decode cX11_many 101 = .ok (.ireturn, 1) := by decide +kernel
theorem dX11_keep_0 : decode cX11_keep 0 = .ok (.aload_n 0, 1) := by decide +kernel
theorem dX11_keep_1 : decode cX11_keep 1 = .ok (.getfield 16, 3) := by decide +kernel
theorem dX11_keep_4 : decode cX11_keep 4 = .ok (.aload_n 0, 1) := by decide +kernel
theorem dX11_keep_5 : decode cX11_keep 5 = .ok (.getfield 10, 3) := by decide +kernel
theorem dX11_keep_8 : decode cX11_keep 8 = .ok (.invokevirtual 382, 3) := by decide +kernel
theorem dX11_keep_11 : decode cX11_keep 11 = .ok (.aload_n 0, 1) := by decide +kernel
theorem dX11_keep_12 : decode cX11_keep 12 = .ok (.iconst 1, 1) := by decide +kernel
theorem dX11_keep_13 : decode cX11_keep 13 = .ok (.putfield 384, 3) := by decide +kernel
theorem dX11_keep_16 : decode cX11_keep 16 = .ok (.iconst 1, 1) := by decide +kernel
theorem dX11_keep_17 : decode cX11_keep 17 = .ok (.ireturn, 1) := by decide +kernel
theorem dX11_again_0 : decode cX11_again 0 = .ok (.aload_n 0, 1) := by decide +kernel
theorem dX11_again_1 : decode cX11_again 1 = .ok (.getfield 384, 3) := by decide +kernel
theorem dX11_again_4 : decode cX11_again 4 = .ok (.ifCond .ne 6, 3) := by decide +kernel
theorem dX11_again_7 : decode cX11_again 7 = .ok (.bipush (-3), 2) := by decide +kernel
theorem dX11_again_9 : decode cX11_again 9 = .ok (.ireturn, 1) := by decide +kernel
theorem dX11_again_10 : decode cX11_again 10 = .ok (.aload_n 0, 1) := by decide +kernel
theorem dX11_again_11 : decode cX11_again 11 = .ok (.getfield 10, 3) := by decide +kernel
theorem dX11_again_14 : decode cX11_again 14 = .ok (.aload_n 0, 1) := by decide +kernel
theorem dX11_again_15 : decode cX11_again 15 = .ok (.getfield 16, 3) := by decide +kernel
theorem dX11_again_18 : decode cX11_again 18 = .ok (.invokevirtual 382, 3) := by decide +kernel
theorem dX11_again_21 : decode cX11_again 21 = .ok (.aload_n 0, 1) := by decide +kernel
theorem dX11_again_22 : decode cX11_again 22 = .ok (.getfield 10, 3) := by decide +kernel
theorem dX11_again_25 : decode cX11_again 25 = .ok (.getfield 83, 3) := by decide +kernel
theorem dX11_again_28 : decode cX11_again 28 = .ok (.ireturn, 1) := by decide +kernel
theorem dX11_scored_0 : decode cX11_scored 0 = .ok (.aload_n 0, 1) := by decide +kernel
theorem dX11_scored_1 : decode cX11_scored 1 = .ok (.getfield 10, 3) := by decide +kernel
theorem dX11_scored_4 : decode cX11_scored 4 = .ok (.dup, 1) := by decide +kernel
theorem dX11_scored_5 : decode cX11_scored 5 = .ok (.getfield 167, 3) := by decide +kernel
theorem dX11_scored_8 : decode cX11_scored 8 = .ok (.iload_n 1, 1) := by decide +kernel
theorem dX11_scored_9 : decode cX11_scored 9 = .ok (.iadd, 1) := by decide +kernel
theorem dX11_scored_10 : decode cX11_scored 10 = .ok (.putfield 167, 3) := by decide +kernel
theorem dX11_scored_13 : decode cX11_scored 13 = .ok (.iload_n 1, 1) := by decide +kernel
theorem dX11_scored_14 : decode cX11_scored 14 = .ok (.ireturn, 1) := by decide +kernel
theorem dX11_within_0 : decode cX11_within 0 = .ok (.iload_n 0, 1) := by decide +kernel
theorem dX11_within_1 : decode cX11_within 1 = .ok (.ifCond .lt 12, 3) := by decide +kernel
theorem dX11_within_4 : decode cX11_within 4 = .ok (.iload_n 0, 1) := by decide +kernel
theorem dX11_within_5 : decode cX11_within 5 = .ok (.iload_n 1, 1) := by decide +kernel
theorem dX11_within_6 : decode cX11_within 6 = .ok (.if_icmp .gt 7, 3) := by decide +kernel
theorem dX11_within_9 : decode cX11_within 9 = .ok (.iconst 1, 1) := by decide +kernel
theorem dX11_within_10 : decode cX11_within 10 = .ok (.goto 4, 3) := by decide +kernel
theorem dX11_within_13 : decode cX11_within 13 = .ok (.iconst 0, 1) := by decide +kernel
theorem dX11_within_14 : decode cX11_within 14 = .ok (.ireturn, 1) := by decide +kernel
theorem dX11_isKind_0 : decode cX11_isKind 0 = .ok (.iload_n 0, 1) := by decide +kernel
theorem dX11_isKind_1 : decode cX11_isKind 1 = .ok (.iconst 1, 1) := by decide +kernel
theorem dX11_isKind_2 : decode cX11_isKind 2 = .ok (.if_icmp .lt 12, 3) := by decide +kernel
theorem dX11_isKind_5 : decode cX11_isKind 5 = .ok (.iload_n 0, 1) := by decide +kernel
theorem dX11_isKind_6 : decode cX11_isKind 6 = .ok (.iconst 5, 1) := by decide +kernel
theorem dX11_isKind_7 : decode cX11_isKind 7 = .ok (.if_icmp .gt 7, 3) := by decide +kernel
theorem dX11_isKind_10 : decode cX11_isKind 10 = .ok (.iconst 1, 1) := by decide +kernel
theorem dX11_isKind_11 : decode cX11_isKind 11 = .ok (.goto 4, 3) := by decide +kernel
theorem dX11_isKind_14 : decode cX11_isKind 14 = .ok (.iconst 0, 1) := by decide +kernel
theorem dX11_isKind_15 : decode cX11_isKind 15 = .ok (.ireturn, 1) := by decide +kernel
theorem dX11_held_0 : decode cX11_held 0 = .ok (.iconst 0, 1) := by decide +kernel
theorem dX11_held_1 : decode cX11_held 1 = .ok (.iload_n 1, 1) := by decide +kernel
theorem dX11_held_2 : decode cX11_held 2 = .ok (.iload_n 0, 1) := by decide +kernel
theorem dX11_held_3 : decode cX11_held 3 = .ok (.invokestatic 387, 3) := by decide +kernel
theorem dX11_held_6 : decode cX11_held 6 = .ok (.invokestatic 390, 3) := by decide +kernel
theorem dX11_held_9 : decode cX11_held 9 = .ok (.ireturn, 1) := by decide +kernel
theorem dX11_bit_0 : decode cX11_bit 0 = .ok (.iload_n 0, 1) := by decide +kernel
theorem dX11_bit_1 : decode cX11_bit 1 = .ok (.iload_n 1, 1) := by decide +kernel
theorem dX11_bit_2 : decode cX11_bit 2 = .ok (.ishr, 1) := by decide +kernel
theorem dX11_bit_3 : decode cX11_bit 3 = .ok (.iconst 1, 1) := by decide +kernel
theorem dX11_bit_4 : decode cX11_bit 4 = .ok (.iand, 1) := by decide +kernel
theorem dX11_bit_5 : decode cX11_bit 5 = .ok (.ireturn, 1) := by decide +kernel
theorem dX11_withBit_0 : decode cX11_withBit 0 = .ok (.iload_n 0, 1) := by decide +kernel
theorem dX11_withBit_1 : decode cX11_withBit 1 = .ok (.iconst 1, 1) := by decide +kernel
theorem dX11_withBit_2 : decode cX11_withBit 2 = .ok (.iload_n 1, 1) := by decide +kernel
theorem dX11_withBit_3 : decode cX11_withBit 3 = .ok (.ishl, 1) := by decide +kernel
theorem dX11_withBit_4 : decode cX11_withBit 4 = .ok (.iconst (-1), 1) := by decide +kernel
theorem dX11_withBit_5 : decode cX11_withBit 5 = .ok (.ixor, 1) := by decide +kernel
theorem dX11_withBit_6 : decode cX11_withBit 6 = .ok (.iand, 1) := by decide +kernel
theorem dX11_withBit_7 : decode cX11_withBit 7 = .ok (.iload_n 2, 1) := by decide +kernel
theorem dX11_withBit_8 : decode cX11_withBit 8 = .ok (.iload_n 1, 1) := by decide +kernel
theorem dX11_withBit_9 : decode cX11_withBit 9 = .ok (.ishl, 1) := by decide +kernel
theorem dX11_withBit_10 : decode cX11_withBit 10 = .ok (.ior, 1) := by decide +kernel
theorem dX11_withBit_11 : decode cX11_withBit 11 = .ok (.ireturn, 1) := by decide +kernel
theorem dX11_replaced_0 : decode cX11_replaced 0 = .ok (.aload_n 0, 1) := by decide +kernel
theorem dX11_replaced_1 : decode cX11_replaced 1 = .ok (.iload_n 1, 1) := by decide +kernel
theorem dX11_replaced_2 : decode cX11_replaced 2 = .ok (.iaload, 1) := by decide +kernel
theorem dX11_replaced_3 : decode cX11_replaced 3 = .ok (.istore_n 3, 1) := by decide +kernel
theorem dX11_replaced_4 : decode cX11_replaced 4 = .ok (.aload_n 0, 1) := by decide +kernel
theorem dX11_replaced_5 : decode cX11_replaced 5 = .ok (.iload_n 1, 1) := by decide +kernel
theorem dX11_replaced_6 : decode cX11_replaced 6 = .ok (.iload_n 2, 1) := by decide +kernel
theorem dX11_replaced_7 : decode cX11_replaced 7 = .ok (.iastore, 1) := by decide +kernel
theorem dX11_replaced_8 : decode cX11_replaced 8 = .ok (.iload_n 3, 1) := by decide +kernel
theorem dX11_replaced_9 : decode cX11_replaced 9 = .ok (.ireturn, 1) := by decide +kernel
theorem dX11_kindOfStranger_0 : decode cX11_kindOfStranger 0 = .ok (.iconst 1, 1) := by decide +kernel
theorem dX11_kindOfStranger_1 : decode cX11_kindOfStranger 1 = .ok (.iload_n 0, 1) := by decide +kernel
theorem dX11_kindOfStranger_2 : decode cX11_kindOfStranger 2 = .ok (.bipush 100, 2) := by decide +kernel
theorem dX11_kindOfStranger_4 : decode cX11_kindOfStranger 4 = .ok (.idiv, 1) := by decide +kernel
theorem dX11_kindOfStranger_5 : decode cX11_kindOfStranger 5 = .ok (.iadd, 1) := by decide +kernel
theorem dX11_kindOfStranger_6 : decode cX11_kindOfStranger 6 = .ok (.ireturn, 1) := by decide +kernel
theorem dX11_giftOfStranger_0 : decode cX11_giftOfStranger 0 = .ok (.iload_n 0, 1) := by decide +kernel
theorem dX11_giftOfStranger_1 : decode cX11_giftOfStranger 1 = .ok (.bipush 10, 2) := by decide +kernel
theorem dX11_giftOfStranger_3 : decode cX11_giftOfStranger 3 = .ok (.idiv, 1) := by decide +kernel
theorem dX11_giftOfStranger_4 : decode cX11_giftOfStranger 4 = .ok (.bipush 10, 2) := by decide +kernel
theorem dX11_giftOfStranger_6 : decode cX11_giftOfStranger 6 = .ok (.irem, 1) := by decide +kernel
theorem dX11_giftOfStranger_7 : decode cX11_giftOfStranger 7 = .ok (.ireturn, 1) := by decide +kernel
theorem dX11_moodOfStranger_0 : decode cX11_moodOfStranger 0 = .ok (.iload_n 0, 1) := by decide +kernel
theorem dX11_moodOfStranger_1 : decode cX11_moodOfStranger 1 = .ok (.bipush 10, 2) := by decide +kernel
theorem dX11_moodOfStranger_3 : decode cX11_moodOfStranger 3 = .ok (.irem, 1) := by decide +kernel
theorem dX11_moodOfStranger_4 : decode cX11_moodOfStranger 4 = .ok (.ireturn, 1) := by decide +kernel
theorem dJ6_numberOfTrailingZeros_0f7a4_0 : decode cJ6_numberOfTrailingZeros_0f7a4 0 = .ok (.iload_n 0, 1) := by decide +kernel
theorem dJ6_numberOfTrailingZeros_0f7a4_1 : decode cJ6_numberOfTrailingZeros_0f7a4 1 = .ok (.iconst (-1), 1) := by decide +kernel
theorem dJ6_numberOfTrailingZeros_0f7a4_2 : decode cJ6_numberOfTrailingZeros_0f7a4 2 = .ok (.ixor, 1) := by decide +kernel
theorem dJ6_numberOfTrailingZeros_0f7a4_3 : decode cJ6_numberOfTrailingZeros_0f7a4 3 = .ok (.iload_n 0, 1) := by decide +kernel
theorem dJ6_numberOfTrailingZeros_0f7a4_4 : decode cJ6_numberOfTrailingZeros_0f7a4 4 = .ok (.iconst 1, 1) := by decide +kernel
theorem dJ6_numberOfTrailingZeros_0f7a4_5 : decode cJ6_numberOfTrailingZeros_0f7a4 5 = .ok (.isub, 1) := by decide +kernel
theorem dJ6_numberOfTrailingZeros_0f7a4_6 : decode cJ6_numberOfTrailingZeros_0f7a4 6 = .ok (.iand, 1) := by decide +kernel
theorem dJ6_numberOfTrailingZeros_0f7a4_7 : decode cJ6_numberOfTrailingZeros_0f7a4 7 = .ok (.istore_n 0, 1) := by decide +kernel
theorem dJ6_numberOfTrailingZeros_0f7a4_8 : decode cJ6_numberOfTrailingZeros_0f7a4 8 = .ok (.iload_n 0, 1) := by decide +kernel
theorem dJ6_numberOfTrailingZeros_0f7a4_9 : decode cJ6_numberOfTrailingZeros_0f7a4 9 = .ok (.ifCond .gt 8, 3) := by decide +kernel
theorem dJ6_numberOfTrailingZeros_0f7a4_12 : decode cJ6_numberOfTrailingZeros_0f7a4 12 = .ok (.iload_n 0, 1) := by decide +kernel
theorem dJ6_numberOfTrailingZeros_0f7a4_13 : decode cJ6_numberOfTrailingZeros_0f7a4 13 = .ok (.bipush 32, 2) := by decide +kernel
theorem dJ6_numberOfTrailingZeros_0f7a4_15 : decode cJ6_numberOfTrailingZeros_0f7a4 15 = .ok (.iand, 1) := by decide +kernel
theorem dJ6_numberOfTrailingZeros_0f7a4_16 : decode cJ6_numberOfTrailingZeros_0f7a4 16 = .ok (.ireturn, 1) := by decide +kernel
theorem dJ6_numberOfTrailingZeros_0f7a4_17 : decode cJ6_numberOfTrailingZeros_0f7a4 17 = .ok (.iconst 1, 1) := by decide +kernel
theorem dJ6_numberOfTrailingZeros_0f7a4_18 : decode cJ6_numberOfTrailingZeros_0f7a4 18 = .ok (.istore_n 1, 1) := by decide +kernel
theorem dJ6_numberOfTrailingZeros_0f7a4_19 : decode cJ6_numberOfTrailingZeros_0f7a4 19 = .ok (.iload_n 0, 1) := by decide +kernel
theorem dJ6_numberOfTrailingZeros_0f7a4_20 : decode cJ6_numberOfTrailingZeros_0f7a4 20 = .ok (.ldc_w 264, 3) := by decide +kernel
theorem dJ6_numberOfTrailingZeros_0f7a4_23 : decode cJ6_numberOfTrailingZeros_0f7a4 23 = .ok (.if_icmp .le 11, 3) := by decide +kernel
theorem dJ6_numberOfTrailingZeros_0f7a4_26 : decode cJ6_numberOfTrailingZeros_0f7a4 26 = .ok (.iinc 1 16, 3) := by decide +kernel
theorem dJ6_numberOfTrailingZeros_0f7a4_29 : decode cJ6_numberOfTrailingZeros_0f7a4 29 = .ok (.iload_n 0, 1) := by decide +kernel
theorem dJ6_numberOfTrailingZeros_0f7a4_30 : decode cJ6_numberOfTrailingZeros_0f7a4 30 = .ok (.bipush 16, 2) := by decide +kernel
theorem dJ6_numberOfTrailingZeros_0f7a4_32 : decode cJ6_numberOfTrailingZeros_0f7a4 32 = .ok (.iushr, 1) := by decide +kernel
theorem dJ6_numberOfTrailingZeros_0f7a4_33 : decode cJ6_numberOfTrailingZeros_0f7a4 33 = .ok (.istore_n 0, 1) := by decide +kernel
theorem dJ6_numberOfTrailingZeros_0f7a4_34 : decode cJ6_numberOfTrailingZeros_0f7a4 34 = .ok (.iload_n 0, 1) := by decide +kernel
theorem dJ6_numberOfTrailingZeros_0f7a4_35 : decode cJ6_numberOfTrailingZeros_0f7a4 35 = .ok (.sipush 256, 3) := by decide +kernel
theorem dJ6_numberOfTrailingZeros_0f7a4_38 : decode cJ6_numberOfTrailingZeros_0f7a4 38 = .ok (.if_icmp .le 11, 3) := by decide +kernel
theorem dJ6_numberOfTrailingZeros_0f7a4_41 : decode cJ6_numberOfTrailingZeros_0f7a4 41 = .ok (.iinc 1 8, 3) := by decide +kernel
theorem dJ6_numberOfTrailingZeros_0f7a4_44 : decode cJ6_numberOfTrailingZeros_0f7a4 44 = .ok (.iload_n 0, 1) := by decide +kernel
theorem dJ6_numberOfTrailingZeros_0f7a4_45 : decode cJ6_numberOfTrailingZeros_0f7a4 45 = .ok (.bipush 8, 2) := by decide +kernel
theorem dJ6_numberOfTrailingZeros_0f7a4_47 : decode cJ6_numberOfTrailingZeros_0f7a4 47 = .ok (.iushr, 1) := by decide +kernel
theorem dJ6_numberOfTrailingZeros_0f7a4_48 : decode cJ6_numberOfTrailingZeros_0f7a4 48 = .ok (.istore_n 0, 1) := by decide +kernel
theorem dJ6_numberOfTrailingZeros_0f7a4_49 : decode cJ6_numberOfTrailingZeros_0f7a4 49 = .ok (.iload_n 0, 1) := by decide +kernel
theorem dJ6_numberOfTrailingZeros_0f7a4_50 : decode cJ6_numberOfTrailingZeros_0f7a4 50 = .ok (.bipush 16, 2) := by decide +kernel
theorem dJ6_numberOfTrailingZeros_0f7a4_52 : decode cJ6_numberOfTrailingZeros_0f7a4 52 = .ok (.if_icmp .le 10, 3) := by decide +kernel
theorem dJ6_numberOfTrailingZeros_0f7a4_55 : decode cJ6_numberOfTrailingZeros_0f7a4 55 = .ok (.iinc 1 4, 3) := by decide +kernel
theorem dJ6_numberOfTrailingZeros_0f7a4_58 : decode cJ6_numberOfTrailingZeros_0f7a4 58 = .ok (.iload_n 0, 1) := by decide +kernel
theorem dJ6_numberOfTrailingZeros_0f7a4_59 : decode cJ6_numberOfTrailingZeros_0f7a4 59 = .ok (.iconst 4, 1) := by decide +kernel
theorem dJ6_numberOfTrailingZeros_0f7a4_60 : decode cJ6_numberOfTrailingZeros_0f7a4 60 = .ok (.iushr, 1) := by decide +kernel
theorem dJ6_numberOfTrailingZeros_0f7a4_61 : decode cJ6_numberOfTrailingZeros_0f7a4 61 = .ok (.istore_n 0, 1) := by decide +kernel
theorem dJ6_numberOfTrailingZeros_0f7a4_62 : decode cJ6_numberOfTrailingZeros_0f7a4 62 = .ok (.iload_n 0, 1) := by decide +kernel
theorem dJ6_numberOfTrailingZeros_0f7a4_63 : decode cJ6_numberOfTrailingZeros_0f7a4 63 = .ok (.iconst 4, 1) := by decide +kernel
theorem dJ6_numberOfTrailingZeros_0f7a4_64 : decode cJ6_numberOfTrailingZeros_0f7a4 64 = .ok (.if_icmp .le 10, 3) := by decide +kernel
theorem dJ6_numberOfTrailingZeros_0f7a4_67 : decode cJ6_numberOfTrailingZeros_0f7a4 67 = .ok (.iinc 1 2, 3) := by decide +kernel
theorem dJ6_numberOfTrailingZeros_0f7a4_70 : decode cJ6_numberOfTrailingZeros_0f7a4 70 = .ok (.iload_n 0, 1) := by decide +kernel
theorem dJ6_numberOfTrailingZeros_0f7a4_71 : decode cJ6_numberOfTrailingZeros_0f7a4 71 = .ok (.iconst 2, 1) := by decide +kernel
theorem dJ6_numberOfTrailingZeros_0f7a4_72 : decode cJ6_numberOfTrailingZeros_0f7a4 72 = .ok (.iushr, 1) := by decide +kernel
theorem dJ6_numberOfTrailingZeros_0f7a4_73 : decode cJ6_numberOfTrailingZeros_0f7a4 73 = .ok (.istore_n 0, 1) := by decide +kernel
theorem dJ6_numberOfTrailingZeros_0f7a4_74 : decode cJ6_numberOfTrailingZeros_0f7a4 74 = .ok (.iload_n 1, 1) := by decide +kernel
theorem dJ6_numberOfTrailingZeros_0f7a4_75 : decode cJ6_numberOfTrailingZeros_0f7a4 75 = .ok (.iload_n 0, 1) := by decide +kernel
theorem dJ6_numberOfTrailingZeros_0f7a4_76 : decode cJ6_numberOfTrailingZeros_0f7a4 76 = .ok (.iconst 1, 1) := by decide +kernel
theorem dJ6_numberOfTrailingZeros_0f7a4_77 : decode cJ6_numberOfTrailingZeros_0f7a4 77 = .ok (.iushr, 1) := by decide +kernel
theorem dJ6_numberOfTrailingZeros_0f7a4_78 : decode cJ6_numberOfTrailingZeros_0f7a4 78 = .ok (.iadd, 1) := by decide +kernel
theorem dJ6_numberOfTrailingZeros_0f7a4_79 : decode cJ6_numberOfTrailingZeros_0f7a4 79 = .ok (.ireturn, 1) := by decide +kernel
theorem dJ6_bitCount_0f7a4_0 : decode cJ6_bitCount_0f7a4 0 = .ok (.iload_n 0, 1) := by decide +kernel
theorem dJ6_bitCount_0f7a4_1 : decode cJ6_bitCount_0f7a4 1 = .ok (.iload_n 0, 1) := by decide +kernel
theorem dJ6_bitCount_0f7a4_2 : decode cJ6_bitCount_0f7a4 2 = .ok (.iconst 1, 1) := by decide +kernel
theorem dJ6_bitCount_0f7a4_3 : decode cJ6_bitCount_0f7a4 3 = .ok (.iushr, 1) := by decide +kernel
theorem dJ6_bitCount_0f7a4_4 : decode cJ6_bitCount_0f7a4 4 = .ok (.ldc_w 265, 3) := by decide +kernel
theorem dJ6_bitCount_0f7a4_7 : decode cJ6_bitCount_0f7a4 7 = .ok (.iand, 1) := by decide +kernel
theorem dJ6_bitCount_0f7a4_8 : decode cJ6_bitCount_0f7a4 8 = .ok (.isub, 1) := by decide +kernel
theorem dJ6_bitCount_0f7a4_9 : decode cJ6_bitCount_0f7a4 9 = .ok (.istore_n 0, 1) := by decide +kernel
theorem dJ6_bitCount_0f7a4_10 : decode cJ6_bitCount_0f7a4 10 = .ok (.iload_n 0, 1) := by decide +kernel
theorem dJ6_bitCount_0f7a4_11 : decode cJ6_bitCount_0f7a4 11 = .ok (.ldc_w 266, 3) := by decide +kernel
theorem dJ6_bitCount_0f7a4_14 : decode cJ6_bitCount_0f7a4 14 = .ok (.iand, 1) := by decide +kernel
theorem dJ6_bitCount_0f7a4_15 : decode cJ6_bitCount_0f7a4 15 = .ok (.iload_n 0, 1) := by decide +kernel
theorem dJ6_bitCount_0f7a4_16 : decode cJ6_bitCount_0f7a4 16 = .ok (.iconst 2, 1) := by decide +kernel
theorem dJ6_bitCount_0f7a4_17 : decode cJ6_bitCount_0f7a4 17 = .ok (.iushr, 1) := by decide +kernel
theorem dJ6_bitCount_0f7a4_18 : decode cJ6_bitCount_0f7a4 18 = .ok (.ldc_w 266, 3) := by decide +kernel
theorem dJ6_bitCount_0f7a4_21 : decode cJ6_bitCount_0f7a4 21 = .ok (.iand, 1) := by decide +kernel
theorem dJ6_bitCount_0f7a4_22 : decode cJ6_bitCount_0f7a4 22 = .ok (.iadd, 1) := by decide +kernel
theorem dJ6_bitCount_0f7a4_23 : decode cJ6_bitCount_0f7a4 23 = .ok (.istore_n 0, 1) := by decide +kernel
theorem dJ6_bitCount_0f7a4_24 : decode cJ6_bitCount_0f7a4 24 = .ok (.iload_n 0, 1) := by decide +kernel
theorem dJ6_bitCount_0f7a4_25 : decode cJ6_bitCount_0f7a4 25 = .ok (.iload_n 0, 1) := by decide +kernel
theorem dJ6_bitCount_0f7a4_26 : decode cJ6_bitCount_0f7a4 26 = .ok (.iconst 4, 1) := by decide +kernel
theorem dJ6_bitCount_0f7a4_27 : decode cJ6_bitCount_0f7a4 27 = .ok (.iushr, 1) := by decide +kernel
theorem dJ6_bitCount_0f7a4_28 : decode cJ6_bitCount_0f7a4 28 = .ok (.iadd, 1) := by decide +kernel
theorem dJ6_bitCount_0f7a4_29 : decode cJ6_bitCount_0f7a4 29 = .ok (.ldc_w 267, 3) := by decide +kernel
theorem dJ6_bitCount_0f7a4_32 : decode cJ6_bitCount_0f7a4 32 = .ok (.iand, 1) := by decide +kernel
theorem dJ6_bitCount_0f7a4_33 : decode cJ6_bitCount_0f7a4 33 = .ok (.istore_n 0, 1) := by decide +kernel
theorem dJ6_bitCount_0f7a4_34 : decode cJ6_bitCount_0f7a4 34 = .ok (.iload_n 0, 1) := by decide +kernel
theorem dJ6_bitCount_0f7a4_35 : decode cJ6_bitCount_0f7a4 35 = .ok (.iload_n 0, 1) := by decide +kernel
theorem dJ6_bitCount_0f7a4_36 : decode cJ6_bitCount_0f7a4 36 = .ok (.bipush 8, 2) := by decide +kernel
theorem dJ6_bitCount_0f7a4_38 : decode cJ6_bitCount_0f7a4 38 = .ok (.iushr, 1) := by decide +kernel
theorem dJ6_bitCount_0f7a4_39 : decode cJ6_bitCount_0f7a4 39 = .ok (.iadd, 1) := by decide +kernel
theorem dJ6_bitCount_0f7a4_40 : decode cJ6_bitCount_0f7a4 40 = .ok (.istore_n 0, 1) := by decide +kernel
theorem dJ6_bitCount_0f7a4_41 : decode cJ6_bitCount_0f7a4 41 = .ok (.iload_n 0, 1) := by decide +kernel
theorem dJ6_bitCount_0f7a4_42 : decode cJ6_bitCount_0f7a4 42 = .ok (.iload_n 0, 1) := by decide +kernel
theorem dJ6_bitCount_0f7a4_43 : decode cJ6_bitCount_0f7a4 43 = .ok (.bipush 16, 2) := by decide +kernel
theorem dJ6_bitCount_0f7a4_45 : decode cJ6_bitCount_0f7a4 45 = .ok (.iushr, 1) := by decide +kernel
theorem dJ6_bitCount_0f7a4_46 : decode cJ6_bitCount_0f7a4 46 = .ok (.iadd, 1) := by decide +kernel
theorem dJ6_bitCount_0f7a4_47 : decode cJ6_bitCount_0f7a4 47 = .ok (.istore_n 0, 1) := by decide +kernel
theorem dJ6_bitCount_0f7a4_48 : decode cJ6_bitCount_0f7a4 48 = .ok (.iload_n 0, 1) := by decide +kernel
theorem dJ6_bitCount_0f7a4_49 : decode cJ6_bitCount_0f7a4 49 = .ok (.bipush 63, 2) := by decide +kernel
theorem dJ6_bitCount_0f7a4_51 : decode cJ6_bitCount_0f7a4 51 = .ok (.iand, 1) := by decide +kernel
theorem dJ6_bitCount_0f7a4_52 : decode cJ6_bitCount_0f7a4 52 = .ok (.ireturn, 1) := by decide +kernel
theorem dJ9_abs_0f7a4_0 : decode cJ9_abs_0f7a4 0 = .ok (.iload_n 0, 1) := by decide +kernel
theorem dJ9_abs_0f7a4_1 : decode cJ9_abs_0f7a4 1 = .ok (.ifCond .ge 8, 3) := by decide +kernel
theorem dJ9_abs_0f7a4_4 : decode cJ9_abs_0f7a4 4 = .ok (.iload_n 0, 1) := by decide +kernel
theorem dJ9_abs_0f7a4_5 : decode cJ9_abs_0f7a4 5 = .ok (.ineg, 1) := by decide +kernel
theorem dJ9_abs_0f7a4_6 : decode cJ9_abs_0f7a4 6 = .ok (.goto 4, 3) := by decide +kernel
theorem dJ9_abs_0f7a4_9 : decode cJ9_abs_0f7a4 9 = .ok (.iload_n 0, 1) := by decide +kernel
theorem dJ9_abs_0f7a4_10 : decode cJ9_abs_0f7a4 10 = .ok (.ireturn, 1) := by decide +kernel
theorem dJ9_max_7cf53_0 : decode cJ9_max_7cf53 0 = .ok (.iload_n 0, 1) := by decide +kernel
theorem dJ9_max_7cf53_1 : decode cJ9_max_7cf53 1 = .ok (.iload_n 1, 1) := by decide +kernel
theorem dJ9_max_7cf53_2 : decode cJ9_max_7cf53 2 = .ok (.if_icmp .lt 7, 3) := by decide +kernel
theorem dJ9_max_7cf53_5 : decode cJ9_max_7cf53 5 = .ok (.iload_n 0, 1) := by decide +kernel
theorem dJ9_max_7cf53_6 : decode cJ9_max_7cf53 6 = .ok (.goto 4, 3) := by decide +kernel
theorem dJ9_max_7cf53_9 : decode cJ9_max_7cf53 9 = .ok (.iload_n 1, 1) := by decide +kernel
theorem dJ9_max_7cf53_10 : decode cJ9_max_7cf53 10 = .ok (.ireturn, 1) := by decide +kernel
theorem dJ9_min_7cf53_0 : decode cJ9_min_7cf53 0 = .ok (.iload_n 0, 1) := by decide +kernel
theorem dJ9_min_7cf53_1 : decode cJ9_min_7cf53 1 = .ok (.iload_n 1, 1) := by decide +kernel
theorem dJ9_min_7cf53_2 : decode cJ9_min_7cf53 2 = .ok (.if_icmp .gt 7, 3) := by decide +kernel
theorem dJ9_min_7cf53_5 : decode cJ9_min_7cf53 5 = .ok (.iload_n 0, 1) := by decide +kernel
theorem dJ9_min_7cf53_6 : decode cJ9_min_7cf53 6 = .ok (.goto 4, 3) := by decide +kernel
theorem dJ9_min_7cf53_9 : decode cJ9_min_7cf53 9 = .ok (.iload_n 1, 1) := by decide +kernel
theorem dJ9_min_7cf53_10 : decode cJ9_min_7cf53 10 = .ok (.ireturn, 1) := by decide +kernel
theorem dJ0_length_8abf5_0 : decode cJ0_length_8abf5 0 = .ok (.aload_n 0, 1) := by decide +kernel
theorem dJ0_length_8abf5_1 : decode cJ0_length_8abf5 1 = .ok (.getfield 9, 3) := by decide +kernel
theorem dJ0_length_8abf5_4 : decode cJ0_length_8abf5 4 = .ok (.arraylength, 1) := by decide +kernel
theorem dJ0_length_8abf5_5 : decode cJ0_length_8abf5 5 = .ok (.aload_n 0, 1) := by decide +kernel
theorem dJ0_length_8abf5_6 : decode cJ0_length_8abf5 6 = .ok (.invokevirtual 335, 3) := by decide +kernel
theorem dJ0_length_8abf5_9 : decode cJ0_length_8abf5 9 = .ok (.ishr, 1) := by decide +kernel
theorem dJ0_length_8abf5_10 : decode cJ0_length_8abf5 10 = .ok (.ireturn, 1) := by decide +kernel
theorem dJ0_charAt_5068e_0 : decode cJ0_charAt_5068e 0 = .ok (.aload_n 0, 1) := by decide +kernel
theorem dJ0_charAt_5068e_1 : decode cJ0_charAt_5068e 1 = .ok (.invokevirtual 492, 3) := by decide +kernel
theorem dJ0_charAt_5068e_4 : decode cJ0_charAt_5068e 4 = .ok (.ifCond .eq 12, 3) := by decide +kernel
theorem dJ0_charAt_5068e_7 : decode cJ0_charAt_5068e 7 = .ok (.aload_n 0, 1) := by decide +kernel
theorem dJ0_charAt_5068e_8 : decode cJ0_charAt_5068e 8 = .ok (.getfield 9, 3) := by decide +kernel
theorem dJ0_charAt_5068e_11 : decode cJ0_charAt_5068e 11 = .ok (.iload_n 1, 1) := by decide +kernel
theorem dJ0_charAt_5068e_12 : decode cJ0_charAt_5068e 12 = .ok (.invokestatic 495, 3) := by decide +kernel
theorem dJ0_charAt_5068e_15 : decode cJ0_charAt_5068e 15 = .ok (.ireturn, 1) := by decide +kernel
theorem dJ0_charAt_5068e_16 : decode cJ0_charAt_5068e 16 = .ok (.aload_n 0, 1) := by decide +kernel
theorem dJ0_charAt_5068e_17 : decode cJ0_charAt_5068e 17 = .ok (.getfield 9, 3) := by decide +kernel
theorem dJ0_charAt_5068e_20 : decode cJ0_charAt_5068e 20 = .ok (.iload_n 1, 1) := by decide +kernel
theorem dJ0_charAt_5068e_21 : decode cJ0_charAt_5068e 21 = .ok (.invokestatic 498, 3) := by decide +kernel
theorem dJ0_charAt_5068e_24 : decode cJ0_charAt_5068e 24 = .ok (.ireturn, 1) := by decide +kernel
theorem dJ0_coder_7d493_0 : decode cJ0_coder_7d493 0 = .ok (.getstatic 38, 3) := by decide +kernel
theorem dJ0_coder_7d493_3 : decode cJ0_coder_7d493 3 = .ok (.ifCond .eq 10, 3) := by decide +kernel
theorem dJ0_coder_7d493_6 : decode cJ0_coder_7d493 6 = .ok (.aload_n 0, 1) := by decide +kernel
theorem dJ0_coder_7d493_7 : decode cJ0_coder_7d493 7 = .ok (.getfield 15, 3) := by decide +kernel
theorem dJ0_coder_7d493_10 : decode cJ0_coder_7d493 10 = .ok (.goto 4, 3) := by decide +kernel
theorem dJ0_coder_7d493_13 : decode cJ0_coder_7d493 13 = .ok (.iconst 1, 1) := by decide +kernel
theorem dJ0_coder_7d493_14 : decode cJ0_coder_7d493 14 = .ok (.ireturn, 1) := by decide +kernel
theorem dJ0_isLatin1_aae02_0 : decode cJ0_isLatin1_aae02 0 = .ok (.getstatic 38, 3) := by decide +kernel
theorem dJ0_isLatin1_aae02_3 : decode cJ0_isLatin1_aae02 3 = .ok (.ifCond .eq 14, 3) := by decide +kernel
theorem dJ0_isLatin1_aae02_6 : decode cJ0_isLatin1_aae02 6 = .ok (.aload_n 0, 1) := by decide +kernel
theorem dJ0_isLatin1_aae02_7 : decode cJ0_isLatin1_aae02 7 = .ok (.getfield 15, 3) := by decide +kernel
theorem dJ0_isLatin1_aae02_10 : decode cJ0_isLatin1_aae02 10 = .ok (.ifCond .ne 7, 3) := by decide +kernel
theorem dJ0_isLatin1_aae02_13 : decode cJ0_isLatin1_aae02 13 = .ok (.iconst 1, 1) := by decide +kernel
theorem dJ0_isLatin1_aae02_14 : decode cJ0_isLatin1_aae02 14 = .ok (.goto 4, 3) := by decide +kernel
theorem dJ0_isLatin1_aae02_17 : decode cJ0_isLatin1_aae02 17 = .ok (.iconst 0, 1) := by decide +kernel
theorem dJ0_isLatin1_aae02_18 : decode cJ0_isLatin1_aae02 18 = .ok (.ireturn, 1) := by decide +kernel
theorem dJ0_checkIndex_df160_0 : decode cJ0_checkIndex_df160 0 = .ok (.iload_n 0, 1) := by decide +kernel
theorem dJ0_checkIndex_df160_1 : decode cJ0_checkIndex_df160 1 = .ok (.iload_n 1, 1) := by decide +kernel
theorem dJ0_checkIndex_df160_2 : decode cJ0_checkIndex_df160 2 = .ok (.getstatic 1053, 3) := by decide +kernel
theorem dJ0_checkIndex_df160_5 : decode cJ0_checkIndex_df160 5 = .ok (.invokestatic 1059, 3) := by decide +kernel
theorem dJ0_checkIndex_df160_8 : decode cJ0_checkIndex_df160 8 = .ok (.pop, 1) := by decide +kernel
theorem dJ0_checkIndex_df160_9 : decode cJ0_checkIndex_df160 9 = .ok (.return_, 1) := by decide +kernel
theorem dJ1_charAt_3b067_0 : decode cJ1_charAt_3b067 0 = .ok (.iload_n 1, 1) := by decide +kernel
theorem dJ1_charAt_3b067_1 : decode cJ1_charAt_3b067 1 = .ok (.aload_n 0, 1) := by decide +kernel
theorem dJ1_charAt_3b067_2 : decode cJ1_charAt_3b067 2 = .ok (.arraylength, 1) := by decide +kernel
theorem dJ1_charAt_3b067_3 : decode cJ1_charAt_3b067 3 = .ok (.invokestatic 9, 3) := by decide +kernel
theorem dJ1_charAt_3b067_6 : decode cJ1_charAt_3b067 6 = .ok (.aload_n 0, 1) := by decide +kernel
theorem dJ1_charAt_3b067_7 : decode cJ1_charAt_3b067 7 = .ok (.iload_n 1, 1) := by decide +kernel
theorem dJ1_charAt_3b067_8 : decode cJ1_charAt_3b067 8 = .ok (.baload, 1) := by decide +kernel
theorem dJ1_charAt_3b067_9 : decode cJ1_charAt_3b067 9 = .ok (.sipush 255, 3) := by decide +kernel
theorem dJ1_charAt_3b067_12 : decode cJ1_charAt_3b067 12 = .ok (.iand, 1) := by decide +kernel
theorem dJ1_charAt_3b067_13 : decode cJ1_charAt_3b067 13 = .ok (.i2c, 1) := by decide +kernel
theorem dJ1_charAt_3b067_14 : decode cJ1_charAt_3b067 14 = .ok (.ireturn, 1) := by decide +kernel
theorem dJ2_getChar_3b067_0 : decode cJ2_getChar_3b067 0 = .ok (.getstatic 44, 3) := by decide +kernel
theorem dJ2_getChar_3b067_3 : decode cJ2_getChar_3b067 3 = .ok (.ifCond .ne 25, 3) := by decide +kernel
theorem dJ2_getChar_3b067_6 : decode cJ2_getChar_3b067 6 = .ok (.iload_n 1, 1) := by decide +kernel
theorem dJ2_getChar_3b067_7 : decode cJ2_getChar_3b067 7 = .ok (.ifCond .lt 11, 3) := by decide +kernel
theorem dJ2_getChar_3b067_10 : decode cJ2_getChar_3b067 10 = .ok (.iload_n 1, 1) := by decide +kernel
theorem dJ2_getChar_3b067_11 : decode cJ2_getChar_3b067 11 = .ok (.aload_n 0, 1) := by decide +kernel
theorem dJ2_getChar_3b067_12 : decode cJ2_getChar_3b067 12 = .ok (.invokestatic 48, 3) := by decide +kernel
theorem dJ2_getChar_3b067_15 : decode cJ2_getChar_3b067 15 = .ok (.if_icmp .lt 13, 3) := by decide +kernel
theorem dJ2_getChar_3b067_18 : decode cJ2_getChar_3b067 18 = .ok (.new 52, 3) := by decide +kernel
theorem dJ2_getChar_3b067_21 : decode cJ2_getChar_3b067 21 = .ok (.dup, 1) := by decide +kernel
theorem dJ2_getChar_3b067_22 : decode cJ2_getChar_3b067 22 = .ok (.ldc 54, 2) := by decide +kernel
theorem dJ2_getChar_3b067_24 : decode cJ2_getChar_3b067 24 = .ok (.invokespecial 56, 3) := by decide +kernel
theorem dJ2_getChar_3b067_27 : decode cJ2_getChar_3b067 27 = .ok (.athrow, 1) := by decide +kernel
theorem dJ2_getChar_3b067_28 : decode cJ2_getChar_3b067 28 = .ok (.iload_n 1, 1) := by decide +kernel
theorem dJ2_getChar_3b067_29 : decode cJ2_getChar_3b067 29 = .ok (.iconst 1, 1) := by decide +kernel
theorem dJ2_getChar_3b067_30 : decode cJ2_getChar_3b067 30 = .ok (.ishl, 1) := by decide +kernel
theorem dJ2_getChar_3b067_31 : decode cJ2_getChar_3b067 31 = .ok (.istore_n 1, 1) := by decide +kernel
theorem dJ2_getChar_3b067_32 : decode cJ2_getChar_3b067 32 = .ok (.aload_n 0, 1) := by decide +kernel
theorem dJ2_getChar_3b067_33 : decode cJ2_getChar_3b067 33 = .ok (.iload_n 1, 1) := by decide +kernel
