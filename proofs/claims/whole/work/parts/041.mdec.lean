theorem dX12_factHere_104 : decode cX12_factHere 104 = .ok (.goto 4, 3) := by decide +kernel
theorem dX12_factHere_107 : decode cX12_factHere 107 = .ok (.iconst (-1), 1) := by decide +kernel
theorem dX12_factHere_108 : decode cX12_factHere 108 = .ok (.ireturn, 1) := by decide +kernel
theorem dX12_isTwo_0 : decode cX12_isTwo 0 = .ok (.aload_n 0, 1) := by decide +kernel
theorem dX12_isTwo_1 : decode cX12_isTwo 1 = .ok (.getfield 170, 3) := by decide +kernel
theorem dX12_isTwo_4 : decode cX12_isTwo 4 = .ok (.iconst 1, 1) := by decide +kernel
theorem dX12_isTwo_5 : decode cX12_isTwo 5 = .ok (.if_icmp .ne 46, 3) := by decide +kernel
theorem dX12_isTwo_8 : decode cX12_isTwo 8 = .ok (.aload_n 0, 1) := by decide +kernel
theorem dX12_isTwo_9 : decode cX12_isTwo 9 = .ok (.getfield 155, 3) := by decide +kernel
theorem dX12_isTwo_12 : decode cX12_isTwo 12 = .ok (.aload_n 0, 1) := by decide +kernel
theorem dX12_isTwo_13 : decode cX12_isTwo 13 = .ok (.getfield 158, 3) := by decide +kernel
theorem dX12_isTwo_16 : decode cX12_isTwo 16 = .ok (.isub, 1) := by decide +kernel
theorem dX12_isTwo_17 : decode cX12_isTwo 17 = .ok (.iconst 2, 1) := by decide +kernel
theorem dX12_isTwo_18 : decode cX12_isTwo 18 = .ok (.if_icmp .ne 33, 3) := by decide +kernel
theorem dX12_isTwo_21 : decode cX12_isTwo 21 = .ok (.aload_n 0, 1) := by decide +kernel
theorem dX12_isTwo_22 : decode cX12_isTwo 22 = .ok (.aload_n 0, 1) := by decide +kernel
theorem dX12_isTwo_23 : decode cX12_isTwo 23 = .ok (.getfield 158, 3) := by decide +kernel
theorem dX12_isTwo_26 : decode cX12_isTwo 26 = .ok (.invokevirtual 161, 3) := by decide +kernel
theorem dX12_isTwo_29 : decode cX12_isTwo 29 = .ok (.iload_n 1, 1) := by decide +kernel
theorem dX12_isTwo_30 : decode cX12_isTwo 30 = .ok (.if_icmp .ne 21, 3) := by decide +kernel
theorem dX12_isTwo_33 : decode cX12_isTwo 33 = .ok (.aload_n 0, 1) := by decide +kernel
theorem dX12_isTwo_34 : decode cX12_isTwo 34 = .ok (.aload_n 0, 1) := by decide +kernel
theorem dX12_isTwo_35 : decode cX12_isTwo 35 = .ok (.getfield 158, 3) := by decide +kernel
theorem dX12_isTwo_38 : decode cX12_isTwo 38 = .ok (.iconst 1, 1) := by decide +kernel
theorem dX12_isTwo_39 : decode cX12_isTwo 39 = .ok (.iadd, 1) := by decide +kernel
theorem dX12_isTwo_40 : decode cX12_isTwo 40 = .ok (.invokevirtual 161, 3) := by decide +kernel
theorem dX12_isTwo_43 : decode cX12_isTwo 43 = .ok (.iload_n 2, 1) := by decide +kernel
theorem dX12_isTwo_44 : decode cX12_isTwo 44 = .ok (.if_icmp .ne 7, 3) := by decide +kernel
theorem dX12_isTwo_47 : decode cX12_isTwo 47 = .ok (.iconst 1, 1) := by decide +kernel
theorem dX12_isTwo_48 : decode cX12_isTwo 48 = .ok (.goto 4, 3) := by decide +kernel
theorem dX12_isTwo_51 : decode cX12_isTwo 51 = .ok (.iconst 0, 1) := by decide +kernel
theorem dX12_isTwo_52 : decode cX12_isTwo 52 = .ok (.ireturn, 1) := by decide +kernel
theorem dX12_steps_0 : decode cX12_steps 0 = .ok (.aload_n 0, 1) := by decide +kernel
theorem dX12_steps_1 : decode cX12_steps 1 = .ok (.getfield 176, 3) := by decide +kernel
theorem dX12_steps_4 : decode cX12_steps 4 = .ok (.ifCond .ne 75, 3) := by decide +kernel
theorem dX12_steps_7 : decode cX12_steps 7 = .ok (.aload_n 0, 1) := by decide +kernel
theorem dX12_steps_8 : decode cX12_steps 8 = .ok (.getfield 7, 3) := by decide +kernel
theorem dX12_steps_11 : decode cX12_steps 11 = .ok (.sipush 130, 3) := by decide +kernel
theorem dX12_steps_14 : decode cX12_steps 14 = .ok (.iconst 3, 1) := by decide +kernel
theorem dX12_steps_15 : decode cX12_steps 15 = .ok (.aload_n 0, 1) := by decide +kernel
theorem dX12_steps_16 : decode cX12_steps 16 = .ok (.getfield 7, 3) := by decide +kernel
theorem dX12_steps_19 : decode cX12_steps 19 = .ok (.bipush 7, 2) := by decide +kernel
theorem dX12_steps_21 : decode cX12_steps 21 = .ok (.iaload, 1) := by decide +kernel
theorem dX12_steps_22 : decode cX12_steps 22 = .ok (.imul, 1) := by decide +kernel
theorem dX12_steps_23 : decode cX12_steps 23 = .ok (.iadd, 1) := by decide +kernel
theorem dX12_steps_24 : decode cX12_steps 24 = .ok (.iload_n 1, 1) := by decide +kernel
theorem dX12_steps_25 : decode cX12_steps 25 = .ok (.iastore, 1) := by decide +kernel
theorem dX12_steps_26 : decode cX12_steps 26 = .ok (.aload_n 0, 1) := by decide +kernel
theorem dX12_steps_27 : decode cX12_steps 27 = .ok (.getfield 7, 3) := by decide +kernel
theorem dX12_steps_30 : decode cX12_steps 30 = .ok (.sipush 130, 3) := by decide +kernel
theorem dX12_steps_33 : decode cX12_steps 33 = .ok (.iconst 3, 1) := by decide +kernel
theorem dX12_steps_34 : decode cX12_steps 34 = .ok (.aload_n 0, 1) := by decide +kernel
theorem dX12_steps_35 : decode cX12_steps 35 = .ok (.getfield 7, 3) := by decide +kernel
theorem dX12_steps_38 : decode cX12_steps 38 = .ok (.bipush 7, 2) := by decide +kernel
theorem dX12_steps_40 : decode cX12_steps 40 = .ok (.iaload, 1) := by decide +kernel
theorem dX12_steps_41 : decode cX12_steps 41 = .ok (.imul, 1) := by decide +kernel
theorem dX12_steps_42 : decode cX12_steps 42 = .ok (.iadd, 1) := by decide +kernel
theorem dX12_steps_43 : decode cX12_steps 43 = .ok (.iconst 1, 1) := by decide +kernel
theorem dX12_steps_44 : decode cX12_steps 44 = .ok (.iadd, 1) := by decide +kernel
theorem dX12_steps_45 : decode cX12_steps 45 = .ok (.iload_n 2, 1) := by decide +kernel
theorem dX12_steps_46 : decode cX12_steps 46 = .ok (.iastore, 1) := by decide +kernel
theorem dX12_steps_47 : decode cX12_steps 47 = .ok (.aload_n 0, 1) := by decide +kernel
theorem dX12_steps_48 : decode cX12_steps 48 = .ok (.getfield 7, 3) := by decide +kernel
theorem dX12_steps_51 : decode cX12_steps 51 = .ok (.sipush 130, 3) := by decide +kernel
theorem dX12_steps_54 : decode cX12_steps 54 = .ok (.iconst 3, 1) := by decide +kernel
theorem dX12_steps_55 : decode cX12_steps 55 = .ok (.aload_n 0, 1) := by decide +kernel
theorem dX12_steps_56 : decode cX12_steps 56 = .ok (.getfield 7, 3) := by decide +kernel
theorem dX12_steps_59 : decode cX12_steps 59 = .ok (.bipush 7, 2) := by decide +kernel
theorem dX12_steps_61 : decode cX12_steps 61 = .ok (.iaload, 1) := by decide +kernel
theorem dX12_steps_62 : decode cX12_steps 62 = .ok (.imul, 1) := by decide +kernel
theorem dX12_steps_63 : decode cX12_steps 63 = .ok (.iadd, 1) := by decide +kernel
theorem dX12_steps_64 : decode cX12_steps 64 = .ok (.iconst 2, 1) := by decide +kernel
theorem dX12_steps_65 : decode cX12_steps 65 = .ok (.iadd, 1) := by decide +kernel
theorem dX12_steps_66 : decode cX12_steps 66 = .ok (.iload_n 3, 1) := by decide +kernel
theorem dX12_steps_67 : decode cX12_steps 67 = .ok (.iastore, 1) := by decide +kernel
theorem dX12_steps_68 : decode cX12_steps 68 = .ok (.aload_n 0, 1) := by decide +kernel
theorem dX12_steps_69 : decode cX12_steps 69 = .ok (.getfield 7, 3) := by decide +kernel
theorem dX12_steps_72 : decode cX12_steps 72 = .ok (.bipush 7, 2) := by decide +kernel
theorem dX12_steps_74 : decode cX12_steps 74 = .ok (.dup2, 1) := by decide +kernel
theorem dX12_steps_75 : decode cX12_steps 75 = .ok (.iaload, 1) := by decide +kernel
theorem dX12_steps_76 : decode cX12_steps 76 = .ok (.iconst 1, 1) := by decide +kernel
theorem dX12_steps_77 : decode cX12_steps 77 = .ok (.iadd, 1) := by decide +kernel
theorem dX12_steps_78 : decode cX12_steps 78 = .ok (.iastore, 1) := by decide +kernel
theorem dX12_steps_79 : decode cX12_steps 79 = .ok (.return_, 1) := by decide +kernel
theorem dX12_valueHere_0 : decode cX12_valueHere 0 = .ok (.aload_n 0, 1) := by decide +kernel
theorem dX12_valueHere_1 : decode cX12_valueHere 1 = .ok (.invokevirtual 191, 3) := by decide +kernel
theorem dX12_valueHere_4 : decode cX12_valueHere 4 = .ok (.istore_n 1, 1) := by decide +kernel
theorem dX12_valueHere_5 : decode cX12_valueHere 5 = .ok (.iload_n 1, 1) := by decide +kernel
theorem dX12_valueHere_6 : decode cX12_valueHere 6 = .ok (.ifCond .lt 11, 3) := by decide +kernel
theorem dX12_valueHere_9 : decode cX12_valueHere 9 = .ok (.sipush 10000, 3) := by decide +kernel
theorem dX12_valueHere_12 : decode cX12_valueHere 12 = .ok (.iload_n 1, 1) := by decide +kernel
theorem dX12_valueHere_13 : decode cX12_valueHere 13 = .ok (.iadd, 1) := by decide +kernel
theorem dX12_valueHere_14 : decode cX12_valueHere 14 = .ok (.goto 7, 3) := by decide +kernel
theorem dX12_valueHere_17 : decode cX12_valueHere 17 = .ok (.aload_n 0, 1) := by decide +kernel
theorem dX12_valueHere_18 : decode cX12_valueHere 18 = .ok (.getfield 173, 3) := by decide +kernel
theorem dX12_valueHere_21 : decode cX12_valueHere 21 = .ok (.istore_n 2, 1) := by decide +kernel
theorem dX12_valueHere_22 : decode cX12_valueHere 22 = .ok (.aload_n 0, 1) := by decide +kernel
theorem dX12_valueHere_23 : decode cX12_valueHere 23 = .ok (.iload_n 1, 1) := by decide +kernel
theorem dX12_valueHere_24 : decode cX12_valueHere 24 = .ok (.ifCond .ge 24, 3) := by decide +kernel
theorem dX12_valueHere_27 : decode cX12_valueHere 27 = .ok (.aload_n 0, 1) := by decide +kernel
theorem dX12_valueHere_28 : decode cX12_valueHere 28 = .ok (.getfield 170, 3) := by decide +kernel
theorem dX12_valueHere_31 : decode cX12_valueHere 31 = .ok (.iconst 2, 1) := by decide +kernel
theorem dX12_valueHere_32 : decode cX12_valueHere 32 = .ok (.if_icmp .ne 20, 3) := by decide +kernel
theorem dX12_valueHere_35 : decode cX12_valueHere 35 = .ok (.aload_n 0, 1) := by decide +kernel
theorem dX12_valueHere_36 : decode cX12_valueHere 36 = .ok (.getfield 155, 3) := by decide +kernel
theorem dX12_valueHere_39 : decode cX12_valueHere 39 = .ok (.aload_n 0, 1) := by decide +kernel
theorem dX12_valueHere_40 : decode cX12_valueHere 40 = .ok (.getfield 158, 3) := by decide +kernel
theorem dX12_valueHere_43 : decode cX12_valueHere 43 = .ok (.isub, 1) := by decide +kernel
theorem dX12_valueHere_44 : decode cX12_valueHere 44 = .ok (.iconst 4, 1) := by decide +kernel
theorem dX12_valueHere_45 : decode cX12_valueHere 45 = .ok (.if_icmp .gt 7, 3) := by decide +kernel
theorem dX12_valueHere_48 : decode cX12_valueHere 48 = .ok (.iconst 1, 1) := by decide +kernel
theorem dX12_valueHere_49 : decode cX12_valueHere 49 = .ok (.goto 4, 3) := by decide +kernel
theorem dX12_valueHere_52 : decode cX12_valueHere 52 = .ok (.iconst 0, 1) := by decide +kernel
theorem dX12_valueHere_53 : decode cX12_valueHere 53 = .ok (.invokevirtual 194, 3) := by decide +kernel
theorem dX12_valueHere_56 : decode cX12_valueHere 56 = .ok (.iload_n 2, 1) := by decide +kernel
theorem dX12_valueHere_57 : decode cX12_valueHere 57 = .ok (.ireturn, 1) := by decide +kernel
theorem dX12_comparesHere_0 : decode cX12_comparesHere 0 = .ok (.aload_n 0, 1) := by decide +kernel
theorem dX12_comparesHere_1 : decode cX12_comparesHere 1 = .ok (.invokevirtual 198, 3) := by decide +kernel
theorem dX12_comparesHere_4 : decode cX12_comparesHere 4 = .ok (.istore_n 1, 1) := by decide +kernel
theorem dX12_comparesHere_5 : decode cX12_comparesHere 5 = .ok (.aload_n 0, 1) := by decide +kernel
theorem dX12_comparesHere_6 : decode cX12_comparesHere 6 = .ok (.bipush 60, 2) := by decide +kernel
theorem dX12_comparesHere_8 : decode cX12_comparesHere 8 = .ok (.invokevirtual 201, 3) := by decide +kernel
theorem dX12_comparesHere_11 : decode cX12_comparesHere 11 = .ok (.ifCond .eq 7, 3) := by decide +kernel
theorem dX12_comparesHere_14 : decode cX12_comparesHere 14 = .ok (.iconst 0, 1) := by decide +kernel
theorem dX12_comparesHere_15 : decode cX12_comparesHere 15 = .ok (.goto 17, 3) := by decide +kernel
theorem dX12_comparesHere_18 : decode cX12_comparesHere 18 = .ok (.aload_n 0, 1) := by decide +kernel
theorem dX12_comparesHere_19 : decode cX12_comparesHere 19 = .ok (.bipush 61, 2) := by decide +kernel
theorem dX12_comparesHere_21 : decode cX12_comparesHere 21 = .ok (.invokevirtual 201, 3) := by decide +kernel
theorem dX12_comparesHere_24 : decode cX12_comparesHere 24 = .ok (.ifCond .eq 7, 3) := by decide +kernel
theorem dX12_comparesHere_27 : decode cX12_comparesHere 27 = .ok (.iconst 1, 1) := by decide +kernel
theorem dX12_comparesHere_28 : decode cX12_comparesHere 28 = .ok (.goto 4, 3) := by decide +kernel
theorem dX12_comparesHere_31 : decode cX12_comparesHere 31 = .ok (.iconst 2, 1) := by decide +kernel
theorem dX12_comparesHere_32 : decode cX12_comparesHere 32 = .ok (.istore_n 2, 1) := by decide +kernel
theorem dX12_comparesHere_33 : decode cX12_comparesHere 33 = .ok (.aload_n 0, 1) := by decide +kernel
theorem dX12_comparesHere_34 : decode cX12_comparesHere 34 = .ok (.aload_n 0, 1) := by decide +kernel
theorem dX12_comparesHere_35 : decode cX12_comparesHere 35 = .ok (.bipush 60, 2) := by decide +kernel
theorem dX12_comparesHere_37 : decode cX12_comparesHere 37 = .ok (.invokevirtual 201, 3) := by decide +kernel
theorem dX12_comparesHere_40 : decode cX12_comparesHere 40 = .ok (.ifCond .ne 21, 3) := by decide +kernel
theorem dX12_comparesHere_43 : decode cX12_comparesHere 43 = .ok (.aload_n 0, 1) := by decide +kernel
theorem dX12_comparesHere_44 : decode cX12_comparesHere 44 = .ok (.bipush 61, 2) := by decide +kernel
theorem dX12_comparesHere_46 : decode cX12_comparesHere 46 = .ok (.invokevirtual 201, 3) := by decide +kernel
theorem dX12_comparesHere_49 : decode cX12_comparesHere 49 = .ok (.ifCond .ne 12, 3) := by decide +kernel
theorem dX12_comparesHere_52 : decode cX12_comparesHere 52 = .ok (.aload_n 0, 1) := by decide +kernel
theorem dX12_comparesHere_53 : decode cX12_comparesHere 53 = .ok (.bipush 62, 2) := by decide +kernel
theorem dX12_comparesHere_55 : decode cX12_comparesHere 55 = .ok (.invokevirtual 201, 3) := by decide +kernel
theorem dX12_comparesHere_58 : decode cX12_comparesHere 58 = .ok (.ifCond .eq 7, 3) := by decide +kernel
theorem dX12_comparesHere_61 : decode cX12_comparesHere 61 = .ok (.iconst 1, 1) := by decide +kernel
theorem dX12_comparesHere_62 : decode cX12_comparesHere 62 = .ok (.goto 4, 3) := by decide +kernel
theorem dX12_comparesHere_65 : decode cX12_comparesHere 65 = .ok (.iconst 0, 1) := by decide +kernel
theorem dX12_comparesHere_66 : decode cX12_comparesHere 66 = .ok (.invokevirtual 194, 3) := by decide +kernel
theorem dX12_comparesHere_69 : decode cX12_comparesHere 69 = .ok (.aload_n 0, 1) := by decide +kernel
theorem dX12_comparesHere_70 : decode cX12_comparesHere 70 = .ok (.invokevirtual 198, 3) := by decide +kernel
theorem dX12_comparesHere_73 : decode cX12_comparesHere 73 = .ok (.istore_n 3, 1) := by decide +kernel
theorem dX12_comparesHere_74 : decode cX12_comparesHere 74 = .ok (.aload_n 0, 1) := by decide +kernel
theorem dX12_comparesHere_75 : decode cX12_comparesHere 75 = .ok (.iload_n 2, 1) := by decide +kernel
theorem dX12_comparesHere_76 : decode cX12_comparesHere 76 = .ok (.iload_n 1, 1) := by decide +kernel
theorem dX12_comparesHere_77 : decode cX12_comparesHere 77 = .ok (.iload_n 3, 1) := by decide +kernel
theorem dX12_comparesHere_78 : decode cX12_comparesHere 78 = .ok (.invokevirtual 204, 3) := by decide +kernel
theorem dX12_comparesHere_81 : decode cX12_comparesHere 81 = .ok (.return_, 1) := by decide +kernel
theorem dX12_oneHere_0 : decode cX12_oneHere 0 = .ok (.iconst 0, 1) := by decide +kernel
theorem dX12_oneHere_1 : decode cX12_oneHere 1 = .ok (.istore_n 1, 1) := by decide +kernel
theorem dX12_oneHere_2 : decode cX12_oneHere 2 = .ok (.aload_n 0, 1) := by decide +kernel
theorem dX12_oneHere_3 : decode cX12_oneHere 3 = .ok (.getfield 176, 3) := by decide +kernel
theorem dX12_oneHere_6 : decode cX12_oneHere 6 = .ok (.ifCond .ne 29, 3) := by decide +kernel
theorem dX12_oneHere_9 : decode cX12_oneHere 9 = .ok (.aload_n 0, 1) := by decide +kernel
theorem dX12_oneHere_10 : decode cX12_oneHere 10 = .ok (.iconst 3, 1) := by decide +kernel
theorem dX12_oneHere_11 : decode cX12_oneHere 11 = .ok (.bipush 110, 2) := by decide +kernel
theorem dX12_oneHere_13 : decode cX12_oneHere 13 = .ok (.bipush 111, 2) := by decide +kernel
theorem dX12_oneHere_15 : decode cX12_oneHere 15 = .ok (.bipush 116, 2) := by decide +kernel
theorem dX12_oneHere_17 : decode cX12_oneHere 17 = .ok (.bipush 116, 2) := by decide +kernel
theorem dX12_oneHere_19 : decode cX12_oneHere 19 = .ok (.invokevirtual 183, 3) := by decide +kernel
theorem dX12_oneHere_22 : decode cX12_oneHere 22 = .ok (.ifCond .eq 13, 3) := by decide +kernel
theorem dX12_oneHere_25 : decode cX12_oneHere 25 = .ok (.iinc 1 1, 3) := by decide +kernel
theorem dX12_oneHere_28 : decode cX12_oneHere 28 = .ok (.aload_n 0, 1) := by decide +kernel
theorem dX12_oneHere_29 : decode cX12_oneHere 29 = .ok (.invokevirtual 180, 3) := by decide +kernel
theorem dX12_oneHere_32 : decode cX12_oneHere 32 = .ok (.goto (-30), 3) := by decide +kernel
theorem dX12_oneHere_35 : decode cX12_oneHere 35 = .ok (.aload_n 0, 1) := by decide +kernel
theorem dX12_oneHere_36 : decode cX12_oneHere 36 = .ok (.getfield 176, 3) := by decide +kernel
theorem dX12_oneHere_39 : decode cX12_oneHere 39 = .ok (.ifCond .ne 66, 3) := by decide +kernel
theorem dX12_oneHere_42 : decode cX12_oneHere 42 = .ok (.aload_n 0, 1) := by decide +kernel
theorem dX12_oneHere_43 : decode cX12_oneHere 43 = .ok (.bipush 40, 2) := by decide +kernel
theorem dX12_oneHere_45 : decode cX12_oneHere 45 = .ok (.invokevirtual 201, 3) := by decide +kernel
theorem dX12_oneHere_48 : decode cX12_oneHere 48 = .ok (.ifCond .eq 57, 3) := by decide +kernel
theorem dX12_oneHere_51 : decode cX12_oneHere 51 = .ok (.aload_n 0, 1) := by decide +kernel
theorem dX12_oneHere_52 : decode cX12_oneHere 52 = .ok (.aload_n 0, 1) := by decide +kernel
theorem dX12_oneHere_53 : decode cX12_oneHere 53 = .ok (.getfield 208, 3) := by decide +kernel
theorem dX12_oneHere_56 : decode cX12_oneHere 56 = .ok (.iconst 3, 1) := by decide +kernel
theorem dX12_oneHere_57 : decode cX12_oneHere 57 = .ok (.if_icmp .ge 7, 3) := by decide +kernel
theorem dX12_oneHere_60 : decode cX12_oneHere 60 = .ok (.iconst 1, 1) := by decide +kernel
theorem dX12_oneHere_61 : decode cX12_oneHere 61 = .ok (.goto 4, 3) := by decide +kernel
theorem dX12_oneHere_64 : decode cX12_oneHere 64 = .ok (.iconst 0, 1) := by decide +kernel
theorem dX12_oneHere_65 : decode cX12_oneHere 65 = .ok (.invokevirtual 194, 3) := by decide +kernel
theorem dX12_oneHere_68 : decode cX12_oneHere 68 = .ok (.aload_n 0, 1) := by decide +kernel
theorem dX12_oneHere_69 : decode cX12_oneHere 69 = .ok (.dup, 1) := by decide +kernel
theorem dX12_oneHere_70 : decode cX12_oneHere 70 = .ok (.getfield 208, 3) := by decide +kernel
theorem dX12_oneHere_73 : decode cX12_oneHere 73 = .ok (.iconst 1, 1) := by decide +kernel
theorem dX12_oneHere_74 : decode cX12_oneHere 74 = .ok (.iadd, 1) := by decide +kernel
theorem dX12_oneHere_75 : decode cX12_oneHere 75 = .ok (.putfield 208, 3) := by decide +kernel
theorem dX12_oneHere_78 : decode cX12_oneHere 78 = .ok (.aload_n 0, 1) := by decide +kernel
theorem dX12_oneHere_79 : decode cX12_oneHere 79 = .ok (.invokevirtual 211, 3) := by decide +kernel
theorem dX12_oneHere_82 : decode cX12_oneHere 82 = .ok (.aload_n 0, 1) := by decide +kernel
theorem dX12_oneHere_83 : decode cX12_oneHere 83 = .ok (.aload_n 0, 1) := by decide +kernel
theorem dX12_oneHere_84 : decode cX12_oneHere 84 = .ok (.bipush 41, 2) := by decide +kernel
theorem dX12_oneHere_86 : decode cX12_oneHere 86 = .ok (.invokevirtual 201, 3) := by decide +kernel
theorem dX12_oneHere_89 : decode cX12_oneHere 89 = .ok (.invokevirtual 194, 3) := by decide +kernel
theorem dX12_oneHere_92 : decode cX12_oneHere 92 = .ok (.aload_n 0, 1) := by decide +kernel
theorem dX12_oneHere_93 : decode cX12_oneHere 93 = .ok (.dup, 1) := by decide +kernel
theorem dX12_oneHere_94 : decode cX12_oneHere 94 = .ok (.getfield 208, 3) := by decide +kernel
theorem dX12_oneHere_97 : decode cX12_oneHere 97 = .ok (.iconst 1, 1) := by decide +kernel
theorem dX12_oneHere_98 : decode cX12_oneHere 98 = .ok (.isub, 1) := by decide +kernel
theorem dX12_oneHere_99 : decode cX12_oneHere 99 = .ok (.putfield 208, 3) := by decide +kernel
theorem dX12_oneHere_102 : decode cX12_oneHere 102 = .ok (.goto 14, 3) := by decide +kernel
theorem dX12_oneHere_105 : decode cX12_oneHere 105 = .ok (.aload_n 0, 1) := by decide +kernel
theorem dX12_oneHere_106 : decode cX12_oneHere 106 = .ok (.getfield 176, 3) := by decide +kernel
theorem dX12_oneHere_109 : decode cX12_oneHere 109 = .ok (.ifCond .ne 7, 3) := by decide +kernel
theorem dX12_oneHere_112 : decode cX12_oneHere 112 = .ok (.aload_n 0, 1) := by decide +kernel
theorem dX12_oneHere_113 : decode cX12_oneHere 113 = .ok (.invokevirtual 214, 3) := by decide +kernel
theorem dX12_oneHere_116 : decode cX12_oneHere 116 = .ok (.iload_n 1, 1) := by decide +kernel
theorem dX12_oneHere_117 : decode cX12_oneHere 117 = .ok (.iconst 2, 1) := by decide +kernel
theorem dX12_oneHere_118 : decode cX12_oneHere 118 = .ok (.irem, 1) := by decide +kernel
theorem dX12_oneHere_119 : decode cX12_oneHere 119 = .ok (.iconst 1, 1) := by decide +kernel
theorem dX12_oneHere_120 : decode cX12_oneHere 120 = .ok (.if_icmp .ne 10, 3) := by decide +kernel
theorem dX12_oneHere_123 : decode cX12_oneHere 123 = .ok (.aload_n 0, 1) := by decide +kernel
theorem dX12_oneHere_124 : decode cX12_oneHere 124 = .ok (.iconst 3, 1) := by decide +kernel
theorem dX12_oneHere_125 : decode cX12_oneHere 125 = .ok (.iconst 0, 1) := by decide +kernel
theorem dX12_oneHere_126 : decode cX12_oneHere 126 = .ok (.iconst 0, 1) := by decide +kernel
theorem dX12_oneHere_127 : decode cX12_oneHere 127 = .ok (.invokevirtual 204, 3) := by decide +kernel
theorem dX12_oneHere_130 : decode cX12_oneHere 130 = .ok (.return_, 1) := by decide +kernel
theorem dX12_allHere_0 : decode cX12_allHere 0 = .ok (.aload_n 0, 1) := by decide +kernel
theorem dX12_allHere_1 : decode cX12_allHere 1 = .ok (.invokevirtual 217, 3) := by decide +kernel
theorem dX12_allHere_4 : decode cX12_allHere 4 = .ok (.aload_n 0, 1) := by decide +kernel
theorem dX12_allHere_5 : decode cX12_allHere 5 = .ok (.getfield 176, 3) := by decide +kernel
theorem dX12_allHere_8 : decode cX12_allHere 8 = .ok (.ifCond .ne 37, 3) := by decide +kernel
theorem dX12_allHere_11 : decode cX12_allHere 11 = .ok (.aload_n 0, 1) := by decide +kernel
theorem dX12_allHere_12 : decode cX12_allHere 12 = .ok (.iconst 3, 1) := by decide +kernel
theorem dX12_allHere_13 : decode cX12_allHere 13 = .ok (.bipush 97, 2) := by decide +kernel
theorem dX12_allHere_15 : decode cX12_allHere 15 = .ok (.bipush 110, 2) := by decide +kernel
theorem dX12_allHere_17 : decode cX12_allHere 17 = .ok (.bipush 100, 2) := by decide +kernel
theorem dX12_allHere_19 : decode cX12_allHere 19 = .ok (.bipush 100, 2) := by decide +kernel
theorem dX12_allHere_21 : decode cX12_allHere 21 = .ok (.invokevirtual 183, 3) := by decide +kernel
theorem dX12_allHere_24 : decode cX12_allHere 24 = .ok (.ifCond .eq 21, 3) := by decide +kernel
theorem dX12_allHere_27 : decode cX12_allHere 27 = .ok (.aload_n 0, 1) := by decide +kernel
theorem dX12_allHere_28 : decode cX12_allHere 28 = .ok (.invokevirtual 180, 3) := by decide +kernel
theorem dX12_allHere_31 : decode cX12_allHere 31 = .ok (.aload_n 0, 1) := by decide +kernel
theorem dX12_allHere_32 : decode cX12_allHere 32 = .ok (.invokevirtual 217, 3) := by decide +kernel
theorem dX12_allHere_35 : decode cX12_allHere 35 = .ok (.aload_n 0, 1) := by decide +kernel
theorem dX12_allHere_36 : decode cX12_allHere 36 = .ok (.iconst 4, 1) := by decide +kernel
theorem dX12_allHere_37 : decode cX12_allHere 37 = .ok (.iconst 0, 1) := by decide +kernel
theorem dX12_allHere_38 : decode cX12_allHere 38 = .ok (.iconst 0, 1) := by decide +kernel
theorem dX12_allHere_39 : decode cX12_allHere 39 = .ok (.invokevirtual 204, 3) := by decide +kernel
theorem dX12_allHere_42 : decode cX12_allHere 42 = .ok (.goto (-38), 3) := by decide +kernel
theorem dX12_allHere_45 : decode cX12_allHere 45 = .ok (.return_, 1) := by decide +kernel
theorem dX12_condHere_0 : decode cX12_condHere 0 = .ok (.aload_n 0, 1) := by decide +kernel
theorem dX12_condHere_1 : decode cX12_condHere 1 = .ok (.invokevirtual 220, 3) := by decide +kernel
theorem dX12_condHere_4 : decode cX12_condHere 4 = .ok (.aload_n 0, 1) := by decide +kernel
theorem dX12_condHere_5 : decode cX12_condHere 5 = .ok (.getfield 176, 3) := by decide +kernel
theorem dX12_condHere_8 : decode cX12_condHere 8 = .ok (.ifCond .ne 32, 3) := by decide +kernel
theorem dX12_condHere_11 : decode cX12_condHere 11 = .ok (.aload_n 0, 1) := by decide +kernel
theorem dX12_condHere_12 : decode cX12_condHere 12 = .ok (.bipush 111, 2) := by decide +kernel
theorem dX12_condHere_14 : decode cX12_condHere 14 = .ok (.bipush 114, 2) := by decide +kernel
theorem dX12_condHere_16 : decode cX12_condHere 16 = .ok (.invokevirtual 223, 3) := by decide +kernel
theorem dX12_condHere_19 : decode cX12_condHere 19 = .ok (.ifCond .eq 21, 3) := by decide +kernel
theorem dX12_condHere_22 : decode cX12_condHere 22 = .ok (.aload_n 0, 1) := by decide +kernel
theorem dX12_condHere_23 : decode cX12_condHere 23 = .ok (.invokevirtual 180, 3) := by decide +kernel
theorem dX12_condHere_26 : decode cX12_condHere 26 = .ok (.aload_n 0, 1) := by decide +kernel
theorem dX12_condHere_27 : decode cX12_condHere 27 = .ok (.invokevirtual 220, 3) := by decide +kernel
theorem dX12_condHere_30 : decode cX12_condHere 30 = .ok (.aload_n 0, 1) := by decide +kernel
theorem dX12_condHere_31 : decode cX12_condHere 31 = .ok (.iconst 5, 1) := by decide +kernel
theorem dX12_condHere_32 : decode cX12_condHere 32 = .ok (.iconst 0, 1) := by decide +kernel
theorem dX12_condHere_33 : decode cX12_condHere 33 = .ok (.iconst 0, 1) := by decide +kernel
theorem dX12_condHere_34 : decode cX12_condHere 34 = .ok (.invokevirtual 204, 3) := by decide +kernel
theorem dX12_condHere_37 : decode cX12_condHere 37 = .ok (.goto (-33), 3) := by decide +kernel
theorem dX12_condHere_40 : decode cX12_condHere 40 = .ok (.return_, 1) := by decide +kernel
theorem dX12_ruleHere_0 : decode cX12_ruleHere 0 = .ok (.bipush 74, 2) := by decide +kernel
theorem dX12_ruleHere_2 : decode cX12_ruleHere 2 = .ok (.iconst 4, 1) := by decide +kernel
theorem dX12_ruleHere_3 : decode cX12_ruleHere 3 = .ok (.aload_n 0, 1) := by decide +kernel
theorem dX12_ruleHere_4 : decode cX12_ruleHere 4 = .ok (.getfield 7, 3) := by decide +kernel
theorem dX12_ruleHere_7 : decode cX12_ruleHere 7 = .ok (.iconst 5, 1) := by decide +kernel
theorem dX12_ruleHere_8 : decode cX12_ruleHere 8 = .ok (.iaload, 1) := by decide +kernel
theorem dX12_ruleHere_9 : decode cX12_ruleHere 9 = .ok (.imul, 1) := by decide +kernel
theorem dX12_ruleHere_10 : decode cX12_ruleHere 10 = .ok (.iadd, 1) := by decide +kernel
theorem dX12_ruleHere_11 : decode cX12_ruleHere 11 = .ok (.istore_n 1, 1) := by decide +kernel
theorem dX12_ruleHere_12 : decode cX12_ruleHere 12 = .ok (.aload_n 0, 1) := by decide +kernel
theorem dX12_ruleHere_13 : decode cX12_ruleHere 13 = .ok (.invokevirtual 226, 3) := by decide +kernel
theorem dX12_ruleHere_16 : decode cX12_ruleHere 16 = .ok (.istore_n 2, 1) := by decide +kernel
theorem dX12_ruleHere_17 : decode cX12_ruleHere 17 = .ok (.aload_n 0, 1) := by decide +kernel
theorem dX12_ruleHere_18 : decode cX12_ruleHere 18 = .ok (.iload_n 2, 1) := by decide +kernel
theorem dX12_ruleHere_19 : decode cX12_ruleHere 19 = .ok (.ifCond .lt 18, 3) := by decide +kernel
theorem dX12_ruleHere_22 : decode cX12_ruleHere 22 = .ok (.aload_n 0, 1) := by decide +kernel
theorem dX12_ruleHere_23 : decode cX12_ruleHere 23 = .ok (.getfield 7, 3) := by decide +kernel
theorem dX12_ruleHere_26 : decode cX12_ruleHere 26 = .ok (.iconst 5, 1) := by decide +kernel
theorem dX12_ruleHere_27 : decode cX12_ruleHere 27 = .ok (.iaload, 1) := by decide +kernel
theorem dX12_ruleHere_28 : decode cX12_ruleHere 28 = .ok (.bipush 8, 2) := by decide +kernel
theorem dX12_ruleHere_30 : decode cX12_ruleHere 30 = .ok (.if_icmp .ge 7, 3) := by decide +kernel
theorem dX12_ruleHere_33 : decode cX12_ruleHere 33 = .ok (.iconst 1, 1) := by decide +kernel
theorem dX12_ruleHere_34 : decode cX12_ruleHere 34 = .ok (.goto 4, 3) := by decide +kernel
theorem dX12_ruleHere_37 : decode cX12_ruleHere 37 = .ok (.iconst 0, 1) := by decide +kernel
theorem dX12_ruleHere_38 : decode cX12_ruleHere 38 = .ok (.invokevirtual 194, 3) := by decide +kernel
theorem dX12_ruleHere_41 : decode cX12_ruleHere 41 = .ok (.aload_n 0, 1) := by decide +kernel
theorem dX12_ruleHere_42 : decode cX12_ruleHere 42 = .ok (.getfield 7, 3) := by decide +kernel
theorem dX12_ruleHere_45 : decode cX12_ruleHere 45 = .ok (.bipush 7, 2) := by decide +kernel
theorem dX12_ruleHere_47 : decode cX12_ruleHere 47 = .ok (.iaload, 1) := by decide +kernel
theorem dX12_ruleHere_48 : decode cX12_ruleHere 48 = .ok (.istore_n 3, 1) := by decide +kernel
theorem dX12_ruleHere_49 : decode cX12_ruleHere 49 = .ok (.aload_n 0, 1) := by decide +kernel
theorem dX12_ruleHere_50 : decode cX12_ruleHere 50 = .ok (.getfield 176, 3) := by decide +kernel
theorem dX12_ruleHere_53 : decode cX12_ruleHere 53 = .ok (.ifCond .ne 27, 3) := by decide +kernel
theorem dX12_ruleHere_56 : decode cX12_ruleHere 56 = .ok (.aload_n 0, 1) := by decide +kernel
theorem dX12_ruleHere_57 : decode cX12_ruleHere 57 = .ok (.bipush 105, 2) := by decide +kernel
theorem dX12_ruleHere_59 : decode cX12_ruleHere 59 = .ok (.bipush 102, 2) := by decide +kernel
theorem dX12_ruleHere_61 : decode cX12_ruleHere 61 = .ok (.invokevirtual 223, 3) := by decide +kernel
theorem dX12_ruleHere_64 : decode cX12_ruleHere 64 = .ok (.ifCond .eq 16, 3) := by decide +kernel
theorem dX12_ruleHere_67 : decode cX12_ruleHere 67 = .ok (.aload_n 0, 1) := by decide +kernel
theorem dX12_ruleHere_68 : decode cX12_ruleHere 68 = .ok (.invokevirtual 180, 3) := by decide +kernel
theorem dX12_ruleHere_71 : decode cX12_ruleHere 71 = .ok (.aload_n 0, 1) := by decide +kernel
theorem dX12_ruleHere_72 : decode cX12_ruleHere 72 = .ok (.iconst 0, 1) := by decide +kernel
theorem dX12_ruleHere_73 : decode cX12_ruleHere 73 = .ok (.putfield 208, 3) := by decide +kernel
theorem dX12_ruleHere_76 : decode cX12_ruleHere 76 = .ok (.aload_n 0, 1) := by decide +kernel
theorem dX12_ruleHere_77 : decode cX12_ruleHere 77 = .ok (.invokevirtual 211, 3) := by decide +kernel
theorem dX12_ruleHere_80 : decode cX12_ruleHere 80 = .ok (.aload_n 0, 1) := by decide +kernel
theorem dX12_ruleHere_81 : decode cX12_ruleHere 81 = .ok (.invokevirtual 229, 3) := by decide +kernel
theorem dX12_ruleHere_84 : decode cX12_ruleHere 84 = .ok (.istore 4, 2) := by decide +kernel
theorem dX12_ruleHere_86 : decode cX12_ruleHere 86 = .ok (.aload_n 0, 1) := by decide +kernel
theorem dX12_ruleHere_87 : decode cX12_ruleHere 87 = .ok (.iload 4, 2) := by decide +kernel
theorem dX12_ruleHere_89 : decode cX12_ruleHere 89 = .ok (.ifCond .lt 7, 3) := by decide +kernel
theorem dX12_ruleHere_92 : decode cX12_ruleHere 92 = .ok (.iconst 1, 1) := by decide +kernel
theorem dX12_ruleHere_93 : decode cX12_ruleHere 93 = .ok (.goto 4, 3) := by decide +kernel
theorem dX12_ruleHere_96 : decode cX12_ruleHere 96 = .ok (.iconst 0, 1) := by decide +kernel
theorem dX12_ruleHere_97 : decode cX12_ruleHere 97 = .ok (.invokevirtual 194, 3) := by decide +kernel
theorem dX12_ruleHere_100 : decode cX12_ruleHere 100 = .ok (.aload_n 0, 1) := by decide +kernel
theorem dX12_ruleHere_101 : decode cX12_ruleHere 101 = .ok (.aload_n 0, 1) := by decide +kernel
theorem dX12_ruleHere_102 : decode cX12_ruleHere 102 = .ok (.bipush 59, 2) := by decide +kernel
theorem dX12_ruleHere_104 : decode cX12_ruleHere 104 = .ok (.invokevirtual 201, 3) := by decide +kernel
theorem dX12_ruleHere_107 : decode cX12_ruleHere 107 = .ok (.invokevirtual 194, 3) := by decide +kernel
theorem dX12_ruleHere_110 : decode cX12_ruleHere 110 = .ok (.aload_n 0, 1) := by decide +kernel
theorem dX12_ruleHere_111 : decode cX12_ruleHere 111 = .ok (.getfield 176, 3) := by decide +kernel
theorem dX12_ruleHere_114 : decode cX12_ruleHere 114 = .ok (.ifCond .ne 54, 3) := by decide +kernel
theorem dX12_ruleHere_117 : decode cX12_ruleHere 117 = .ok (.aload_n 0, 1) := by decide +kernel
theorem dX12_ruleHere_118 : decode cX12_ruleHere 118 = .ok (.getfield 7, 3) := by decide +kernel
theorem dX12_ruleHere_121 : decode cX12_ruleHere 121 = .ok (.iload_n 1, 1) := by decide +kernel
theorem dX12_ruleHere_122 : decode cX12_ruleHere 122 = .ok (.iload_n 2, 1) := by decide +kernel
theorem dX12_ruleHere_123 : decode cX12_ruleHere 123 = .ok (.iastore, 1) := by decide +kernel
theorem dX12_ruleHere_124 : decode cX12_ruleHere 124 = .ok (.aload_n 0, 1) := by decide +kernel
theorem dX12_ruleHere_125 : decode cX12_ruleHere 125 = .ok (.getfield 7, 3) := by decide +kernel
theorem dX12_ruleHere_128 : decode cX12_ruleHere 128 = .ok (.iload_n 1, 1) := by decide +kernel
theorem dX12_ruleHere_129 : decode cX12_ruleHere 129 = .ok (.iconst 1, 1) := by decide +kernel
theorem dX12_ruleHere_130 : decode cX12_ruleHere 130 = .ok (.iadd, 1) := by decide +kernel
theorem dX12_ruleHere_131 : decode cX12_ruleHere 131 = .ok (.iload 4, 2) := by decide +kernel
theorem dX12_ruleHere_133 : decode cX12_ruleHere 133 = .ok (.iastore, 1) := by decide +kernel
theorem dX12_ruleHere_134 : decode cX12_ruleHere 134 = .ok (.aload_n 0, 1) := by decide +kernel
theorem dX12_ruleHere_135 : decode cX12_ruleHere 135 = .ok (.getfield 7, 3) := by decide +kernel
theorem dX12_ruleHere_138 : decode cX12_ruleHere 138 = .ok (.iload_n 1, 1) := by decide +kernel
theorem dX12_ruleHere_139 : decode cX12_ruleHere 139 = .ok (.iconst 2, 1) := by decide +kernel
theorem dX12_ruleHere_140 : decode cX12_ruleHere 140 = .ok (.iadd, 1) := by decide +kernel
theorem dX12_ruleHere_141 : decode cX12_ruleHere 141 = .ok (.iload_n 3, 1) := by decide +kernel
theorem dX12_ruleHere_142 : decode cX12_ruleHere 142 = .ok (.iastore, 1) := by decide +kernel
theorem dX12_ruleHere_143 : decode cX12_ruleHere 143 = .ok (.aload_n 0, 1) := by decide +kernel
theorem dX12_ruleHere_144 : decode cX12_ruleHere 144 = .ok (.getfield 7, 3) := by decide +kernel
theorem dX12_ruleHere_147 : decode cX12_ruleHere 147 = .ok (.iload_n 1, 1) := by decide +kernel
theorem dX12_ruleHere_148 : decode cX12_ruleHere 148 = .ok (.iconst 3, 1) := by decide +kernel
theorem dX12_ruleHere_149 : decode cX12_ruleHere 149 = .ok (.iadd, 1) := by decide +kernel
theorem dX12_ruleHere_150 : decode cX12_ruleHere 150 = .ok (.aload_n 0, 1) := by decide +kernel
theorem dX12_ruleHere_151 : decode cX12_ruleHere 151 = .ok (.getfield 7, 3) := by decide +kernel
theorem dX12_ruleHere_154 : decode cX12_ruleHere 154 = .ok (.bipush 7, 2) := by decide +kernel
theorem dX12_ruleHere_156 : decode cX12_ruleHere 156 = .ok (.iaload, 1) := by decide +kernel
theorem dX12_ruleHere_157 : decode cX12_ruleHere 157 = .ok (.iastore, 1) := by decide +kernel
theorem dX12_ruleHere_158 : decode cX12_ruleHere 158 = .ok (.aload_n 0, 1) := by decide +kernel
theorem dX12_ruleHere_159 : decode cX12_ruleHere 159 = .ok (.getfield 7, 3) := by decide +kernel
theorem dX12_ruleHere_162 : decode cX12_ruleHere 162 = .ok (.iconst 5, 1) := by decide +kernel
theorem dX12_ruleHere_163 : decode cX12_ruleHere 163 = .ok (.dup2, 1) := by decide +kernel
theorem dX12_ruleHere_164 : decode cX12_ruleHere 164 = .ok (.iaload, 1) := by decide +kernel
theorem dX12_ruleHere_165 : decode cX12_ruleHere 165 = .ok (.iconst 1, 1) := by decide +kernel
theorem dX12_ruleHere_166 : decode cX12_ruleHere 166 = .ok (.iadd, 1) := by decide +kernel
theorem dX12_ruleHere_167 : decode cX12_ruleHere 167 = .ok (.iastore, 1) := by decide +kernel
theorem dX12_ruleHere_168 : decode cX12_ruleHere 168 = .ok (.return_, 1) := by decide +kernel
theorem dX12_rules_0 : decode cX12_rules 0 = .ok (.iconst 0, 1) := by decide +kernel
theorem dX12_rules_1 : decode cX12_rules 1 = .ok (.istore_n 1, 1) := by decide +kernel
theorem dX12_rules_2 : decode cX12_rules 2 = .ok (.iload_n 1, 1) := by decide +kernel
theorem dX12_rules_3 : decode cX12_rules 3 = .ok (.sipush 580, 3) := by decide +kernel
theorem dX12_rules_6 : decode cX12_rules 6 = .ok (.if_icmp .ge 21, 3) := by decide +kernel
theorem dX12_rules_9 : decode cX12_rules 9 = .ok (.aload_n 0, 1) := by decide +kernel
theorem dX12_rules_10 : decode cX12_rules 10 = .ok (.getfield 22, 3) := by decide +kernel
theorem dX12_rules_13 : decode cX12_rules 13 = .ok (.iload_n 1, 1) := by decide +kernel
theorem dX12_rules_14 : decode cX12_rules 14 = .ok (.aload_n 0, 1) := by decide +kernel
theorem dX12_rules_15 : decode cX12_rules 15 = .ok (.getfield 7, 3) := by decide +kernel
theorem dX12_rules_18 : decode cX12_rules 18 = .ok (.iload_n 1, 1) := by decide +kernel
theorem dX12_rules_19 : decode cX12_rules 19 = .ok (.iaload, 1) := by decide +kernel
theorem dX12_rules_20 : decode cX12_rules 20 = .ok (.iastore, 1) := by decide +kernel
theorem dX12_rules_21 : decode cX12_rules 21 = .ok (.iinc 1 1, 3) := by decide +kernel
theorem dX12_rules_24 : decode cX12_rules 24 = .ok (.goto (-22), 3) := by decide +kernel
theorem dX12_rules_27 : decode cX12_rules 27 = .ok (.aload_n 0, 1) := by decide +kernel
theorem dX12_rules_28 : decode cX12_rules 28 = .ok (.getfield 7, 3) := by decide +kernel
theorem dX12_rules_31 : decode cX12_rules 31 = .ok (.iconst 5, 1) := by decide +kernel
theorem dX12_rules_32 : decode cX12_rules 32 = .ok (.iconst 0, 1) := by decide +kernel
theorem dX12_rules_33 : decode cX12_rules 33 = .ok (.iastore, 1) := by decide +kernel
theorem dX12_rules_34 : decode cX12_rules 34 = .ok (.aload_n 0, 1) := by decide +kernel
theorem dX12_rules_35 : decode cX12_rules 35 = .ok (.getfield 7, 3) := by decide +kernel
theorem dX12_rules_38 : decode cX12_rules 38 = .ok (.bipush 7, 2) := by decide +kernel
theorem dX12_rules_40 : decode cX12_rules 40 = .ok (.iconst 0, 1) := by decide +kernel
theorem dX12_rules_41 : decode cX12_rules 41 = .ok (.iastore, 1) := by decide +kernel
theorem dX12_rules_42 : decode cX12_rules 42 = .ok (.aload_n 0, 1) := by decide +kernel
theorem dX12_rules_43 : decode cX12_rules 43 = .ok (.iconst 0, 1) := by decide +kernel
theorem dX12_rules_44 : decode cX12_rules 44 = .ok (.putfield 155, 3) := by decide +kernel
theorem dX12_rules_47 : decode cX12_rules 47 = .ok (.aload_n 0, 1) := by decide +kernel
theorem dX12_rules_48 : decode cX12_rules 48 = .ok (.iconst 0, 1) := by decide +kernel
theorem dX12_rules_49 : decode cX12_rules 49 = .ok (.putfield 176, 3) := by decide +kernel
theorem dX12_rules_52 : decode cX12_rules 52 = .ok (.aload_n 0, 1) := by decide +kernel
theorem dX12_rules_53 : decode cX12_rules 53 = .ok (.invokevirtual 180, 3) := by decide +kernel
theorem dX12_rules_56 : decode cX12_rules 56 = .ok (.aload_n 0, 1) := by decide +kernel
theorem dX12_rules_57 : decode cX12_rules 57 = .ok (.getfield 176, 3) := by decide +kernel
theorem dX12_rules_60 : decode cX12_rules 60 = .ok (.ifCond .ne 17, 3) := by decide +kernel
theorem dX12_rules_63 : decode cX12_rules 63 = .ok (.aload_n 0, 1) := by decide +kernel
theorem dX12_rules_64 : decode cX12_rules 64 = .ok (.getfield 170, 3) := by decide +kernel
theorem dX12_rules_67 : decode cX12_rules 67 = .ok (.ifCond .eq 10, 3) := by decide +kernel
theorem dX12_rules_70 : decode cX12_rules 70 = .ok (.aload_n 0, 1) := by decide +kernel
theorem dX12_rules_71 : decode cX12_rules 71 = .ok (.invokevirtual 232, 3) := by decide +kernel
theorem dX12_rules_74 : decode cX12_rules 74 = .ok (.goto (-18), 3) := by decide +kernel
theorem dX12_rules_77 : decode cX12_rules 77 = .ok (.aload_n 0, 1) := by decide +kernel
theorem dX12_rules_78 : decode cX12_rules 78 = .ok (.iconst 0, 1) := by decide +kernel
theorem dX12_rules_79 : decode cX12_rules 79 = .ok (.putfield 149, 3) := by decide +kernel
theorem dX12_rules_82 : decode cX12_rules 82 = .ok (.iconst 0, 1) := by decide +kernel
theorem dX12_rules_83 : decode cX12_rules 83 = .ok (.istore_n 1, 1) := by decide +kernel
theorem dX12_rules_84 : decode cX12_rules 84 = .ok (.iload_n 1, 1) := by decide +kernel
theorem dX12_rules_85 : decode cX12_rules 85 = .ok (.sipush 580, 3) := by decide +kernel
theorem dX12_rules_88 : decode cX12_rules 88 = .ok (.if_icmp .ge 28, 3) := by decide +kernel
theorem dX12_rules_91 : decode cX12_rules 91 = .ok (.aload_n 0, 1) := by decide +kernel
theorem dX12_rules_92 : decode cX12_rules 92 = .ok (.getfield 176, 3) := by decide +kernel
theorem dX12_rules_95 : decode cX12_rules 95 = .ok (.ifCond .eq 21, 3) := by decide +kernel
theorem dX12_rules_98 : decode cX12_rules 98 = .ok (.aload_n 0, 1) := by decide +kernel
theorem dX12_rules_99 : decode cX12_rules 99 = .ok (.getfield 7, 3) := by decide +kernel
theorem dX12_rules_102 : decode cX12_rules 102 = .ok (.iload_n 1, 1) := by decide +kernel
theorem dX12_rules_103 : decode cX12_rules 103 = .ok (.aload_n 0, 1) := by decide +kernel
theorem dX12_rules_104 : decode cX12_rules 104 = .ok (.getfield 22, 3) := by decide +kernel
theorem dX12_rules_107 : decode cX12_rules 107 = .ok (.iload_n 1, 1) := by decide +kernel
theorem dX12_rules_108 : decode cX12_rules 108 = .ok (.iaload, 1) := by decide +kernel
theorem dX12_rules_109 : decode cX12_rules 109 = .ok (.iastore, 1) := by decide +kernel
theorem dX12_rules_110 : decode cX12_rules 110 = .ok (.iinc 1 1, 3) := by decide +kernel
theorem dX12_rules_113 : decode cX12_rules 113 = .ok (.goto (-29), 3) := by decide +kernel
theorem dX12_rules_116 : decode cX12_rules 116 = .ok (.aload_n 0, 1) := by decide +kernel
theorem dX12_rules_117 : decode cX12_rules 117 = .ok (.getfield 176, 3) := by decide +kernel
theorem dX12_rules_120 : decode cX12_rules 120 = .ok (.ifCond .eq 13, 3) := by decide +kernel
theorem dX12_rules_123 : decode cX12_rules 123 = .ok (.bipush (-100), 2) := by decide +kernel
theorem dX12_rules_125 : decode cX12_rules 125 = .ok (.aload_n 0, 1) := by decide +kernel
theorem dX12_rules_126 : decode cX12_rules 126 = .ok (.getfield 158, 3) := by decide +kernel
theorem dX12_rules_129 : decode cX12_rules 129 = .ok (.isub, 1) := by decide +kernel
theorem dX12_rules_130 : decode cX12_rules 130 = .ok (.goto 9, 3) := by decide +kernel
theorem dX12_rules_133 : decode cX12_rules 133 = .ok (.aload_n 0, 1) := by decide +kernel
theorem dX12_rules_134 : decode cX12_rules 134 = .ok (.getfield 7, 3) := by decide +kernel
theorem dX12_rules_137 : decode cX12_rules 137 = .ok (.iconst 5, 1) := by decide +kernel
theorem dX12_rules_138 : decode cX12_rules 138 = .ok (.iaload, 1) := by decide +kernel
theorem dX12_rules_139 : decode cX12_rules 139 = .ok (.ireturn, 1) := by decide +kernel
theorem dX12_told_0 : decode cX12_told 0 = .ok (.iload_n 1, 1) := by decide +kernel
theorem dX12_told_1 : decode cX12_told 1 = .ok (.iconst 4, 1) := by decide +kernel
theorem dX12_told_2 : decode cX12_told 2 = .ok (.idiv, 1) := by decide +kernel
theorem dX12_told_3 : decode cX12_told 3 = .ok (.istore_n 2, 1) := by decide +kernel
theorem dX12_told_4 : decode cX12_told 4 = .ok (.iload_n 1, 1) := by decide +kernel
theorem dX12_told_5 : decode cX12_told 5 = .ok (.iconst 4, 1) := by decide +kernel
theorem dX12_told_6 : decode cX12_told 6 = .ok (.irem, 1) := by decide +kernel
theorem dX12_told_7 : decode cX12_told 7 = .ok (.tableswitch 62 0 2 #[25, 32, 39], 25) := by decide +kernel
theorem dX12_told_32 : decode cX12_told 32 = .ok (.iload_n 0, 1) := by decide +kernel
theorem dX12_told_33 : decode cX12_told 33 = .ok (.iload_n 2, 1) := by decide +kernel
theorem dX12_told_34 : decode cX12_told 34 = .ok (.iadd, 1) := by decide +kernel
theorem dX12_told_35 : decode cX12_told 35 = .ok (.invokestatic 235, 3) := by decide +kernel
theorem dX12_told_38 : decode cX12_told 38 = .ok (.ireturn, 1) := by decide +kernel
theorem dX12_told_39 : decode cX12_told 39 = .ok (.iload_n 0, 1) := by decide +kernel
theorem dX12_told_40 : decode cX12_told 40 = .ok (.iload_n 2, 1) := by decide +kernel
theorem dX12_told_41 : decode cX12_told 41 = .ok (.isub, 1) := by decide +kernel
theorem dX12_told_42 : decode cX12_told 42 = .ok (.invokestatic 235, 3) := by decide +kernel
theorem dX12_told_45 : decode cX12_told 45 = .ok (.ireturn, 1) := by decide +kernel
theorem dX12_told_46 : decode cX12_told 46 = .ok (.iload_n 0, 1) := by decide +kernel
theorem dX12_told_47 : decode cX12_told 47 = .ok (.iconst 5, 1) := by decide +kernel
theorem dX12_told_48 : decode cX12_told 48 = .ok (.if_icmp .le 13, 3) := by decide +kernel
theorem dX12_told_51 : decode cX12_told 51 = .ok (.iconst 5, 1) := by decide +kernel
theorem dX12_told_52 : decode cX12_told 52 = .ok (.iload_n 0, 1) := by decide +kernel
theorem dX12_told_53 : decode cX12_told 53 = .ok (.iload_n 2, 1) := by decide +kernel
theorem dX12_told_54 : decode cX12_told 54 = .ok (.isub, 1) := by decide +kernel
theorem dX12_told_55 : decode cX12_told 55 = .ok (.invokestatic 238, 3) := by decide +kernel
theorem dX12_told_58 : decode cX12_told 58 = .ok (.goto 10, 3) := by decide +kernel
theorem dX12_told_61 : decode cX12_told 61 = .ok (.iconst 5, 1) := by decide +kernel
theorem dX12_told_62 : decode cX12_told 62 = .ok (.iload_n 0, 1) := by decide +kernel
theorem dX12_told_63 : decode cX12_told 63 = .ok (.iload_n 2, 1) := by decide +kernel
theorem dX12_told_64 : decode cX12_told 64 = .ok (.iadd, 1) := by decide +kernel
theorem dX12_told_65 : decode cX12_told 65 = .ok (.invokestatic 75, 3) := by decide +kernel
theorem dX12_told_68 : decode cX12_told 68 = .ok (.ireturn, 1) := by decide +kernel
theorem dX12_told_69 : decode cX12_told 69 = .ok (.iload_n 0, 1) := by decide +kernel
theorem dX12_told_70 : decode cX12_told 70 = .ok (.ireturn, 1) := by decide +kernel
theorem dX12_calls_0 : decode cX12_calls 0 = .ok (.aload_n 0, 1) := by decide +kernel
theorem dX12_calls_1 : decode cX12_calls 1 = .ok (.iload_n 1, 1) := by decide +kernel
theorem dX12_calls_2 : decode cX12_calls 2 = .ok (.invokevirtual 119, 3) := by decide +kernel
theorem dX12_calls_5 : decode cX12_calls 5 = .ok (.istore_n 2, 1) := by decide +kernel
theorem dX12_calls_6 : decode cX12_calls 6 = .ok (.iload_n 2, 1) := by decide +kernel
theorem dX12_calls_7 : decode cX12_calls 7 = .ok (.iconst 1, 1) := by decide +kernel
theorem dX12_calls_8 : decode cX12_calls 8 = .ok (.if_icmp .ne 5, 3) := by decide +kernel
theorem dX12_calls_11 : decode cX12_calls 11 = .ok (.iconst 0, 1) := by decide +kernel
theorem dX12_calls_12 : decode cX12_calls 12 = .ok (.ireturn, 1) := by decide +kernel
theorem dX12_calls_13 : decode cX12_calls 13 = .ok (.aload_n 0, 1) := by decide +kernel
theorem dX12_calls_14 : decode cX12_calls 14 = .ok (.getfield 7, 3) := by decide +kernel
theorem dX12_calls_17 : decode cX12_calls 17 = .ok (.bipush 10, 2) := by decide +kernel
theorem dX12_calls_19 : decode cX12_calls 19 = .ok (.bipush 6, 2) := by decide +kernel
theorem dX12_calls_21 : decode cX12_calls 21 = .ok (.iload_n 1, 1) := by decide +kernel
theorem dX12_calls_22 : decode cX12_calls 22 = .ok (.imul, 1) := by decide +kernel
theorem dX12_calls_23 : decode cX12_calls 23 = .ok (.iadd, 1) := by decide +kernel
theorem dX12_calls_24 : decode cX12_calls 24 = .ok (.iconst 4, 1) := by decide +kernel
theorem dX12_calls_25 : decode cX12_calls 25 = .ok (.iadd, 1) := by decide +kernel
theorem dX12_calls_26 : decode cX12_calls 26 = .ok (.iconst 0, 1) := by decide +kernel
theorem dX12_calls_27 : decode cX12_calls 27 = .ok (.iastore, 1) := by decide +kernel
theorem dX12_calls_28 : decode cX12_calls 28 = .ok (.iload_n 2, 1) := by decide +kernel
theorem dX12_calls_29 : decode cX12_calls 29 = .ok (.iconst 2, 1) := by decide +kernel
theorem dX12_calls_30 : decode cX12_calls 30 = .ok (.if_icmp .ne 5, 3) := by decide +kernel
theorem dX12_calls_33 : decode cX12_calls 33 = .ok (.iconst 1, 1) := by decide +kernel
theorem dX12_calls_34 : decode cX12_calls 34 = .ok (.ireturn, 1) := by decide +kernel
theorem dX12_calls_35 : decode cX12_calls 35 = .ok (.aload_n 0, 1) := by decide +kernel
theorem dX12_calls_36 : decode cX12_calls 36 = .ok (.getfield 7, 3) := by decide +kernel
theorem dX12_calls_39 : decode cX12_calls 39 = .ok (.bipush 8, 2) := by decide +kernel
theorem dX12_calls_41 : decode cX12_calls 41 = .ok (.aload_n 0, 1) := by decide +kernel
theorem dX12_calls_42 : decode cX12_calls 42 = .ok (.getfield 7, 3) := by decide +kernel
theorem dX12_calls_45 : decode cX12_calls 45 = .ok (.bipush 8, 2) := by decide +kernel
theorem dX12_calls_47 : decode cX12_calls 47 = .ok (.iaload, 1) := by decide +kernel
theorem dX12_calls_48 : decode cX12_calls 48 = .ok (.aload_n 0, 1) := by decide +kernel
theorem dX12_calls_49 : decode cX12_calls 49 = .ok (.iload_n 1, 1) := by decide +kernel
theorem dX12_calls_50 : decode cX12_calls 50 = .ok (.invokevirtual 113, 3) := by decide +kernel
theorem dX12_calls_53 : decode cX12_calls 53 = .ok (.iadd, 1) := by decide +kernel
theorem dX12_calls_54 : decode cX12_calls 54 = .ok (.invokestatic 235, 3) := by decide +kernel
theorem dX12_calls_57 : decode cX12_calls 57 = .ok (.iastore, 1) := by decide +kernel
theorem dX12_calls_58 : decode cX12_calls 58 = .ok (.aload_n 0, 1) := by decide +kernel
theorem dX12_calls_59 : decode cX12_calls 59 = .ok (.iload_n 1, 1) := by decide +kernel
theorem dX12_calls_60 : decode cX12_calls 60 = .ok (.invokevirtual 241, 3) := by decide +kernel
theorem dX12_calls_63 : decode cX12_calls 63 = .ok (.ifCond .ne 5, 3) := by decide +kernel
theorem dX12_calls_66 : decode cX12_calls 66 = .ok (.iconst 0, 1) := by decide +kernel
theorem dX12_calls_67 : decode cX12_calls 67 = .ok (.ireturn, 1) := by decide +kernel
theorem dX12_calls_68 : decode cX12_calls 68 = .ok (.aload_n 0, 1) := by decide +kernel
theorem dX12_calls_69 : decode cX12_calls 69 = .ok (.getfield 7, 3) := by decide +kernel
theorem dX12_calls_72 : decode cX12_calls 72 = .ok (.bipush 10, 2) := by decide +kernel
theorem dX12_calls_74 : decode cX12_calls 74 = .ok (.bipush 6, 2) := by decide +kernel
theorem dX12_calls_76 : decode cX12_calls 76 = .ok (.iload_n 1, 1) := by decide +kernel
theorem dX12_calls_77 : decode cX12_calls 77 = .ok (.imul, 1) := by decide +kernel
theorem dX12_calls_78 : decode cX12_calls 78 = .ok (.iadd, 1) := by decide +kernel
theorem dX12_calls_79 : decode cX12_calls 79 = .ok (.iconst 5, 1) := by decide +kernel
theorem dX12_calls_80 : decode cX12_calls 80 = .ok (.iadd, 1) := by decide +kernel
theorem dX12_calls_81 : decode cX12_calls 81 = .ok (.iconst 1, 1) := by decide +kernel
theorem dX12_calls_82 : decode cX12_calls 82 = .ok (.iastore, 1) := by decide +kernel
theorem dX12_calls_83 : decode cX12_calls 83 = .ok (.aload_n 0, 1) := by decide +kernel
theorem dX12_calls_84 : decode cX12_calls 84 = .ok (.iload_n 1, 1) := by decide +kernel
theorem dX12_calls_85 : decode cX12_calls 85 = .ok (.invokevirtual 116, 3) := by decide +kernel
theorem dX12_calls_88 : decode cX12_calls 88 = .ok (.iconst 0, 1) := by decide +kernel
theorem dX12_calls_89 : decode cX12_calls 89 = .ok (.bipush 9, 2) := by decide +kernel
theorem dX12_calls_91 : decode cX12_calls 91 = .ok (.aload_n 0, 1) := by decide +kernel
theorem dX12_calls_92 : decode cX12_calls 92 = .ok (.iload_n 1, 1) := by decide +kernel
theorem dX12_calls_93 : decode cX12_calls 93 = .ok (.invokevirtual 93, 3) := by decide +kernel
theorem dX12_calls_96 : decode cX12_calls 96 = .ok (.isub, 1) := by decide +kernel
theorem dX12_calls_97 : decode cX12_calls 97 = .ok (.invokestatic 238, 3) := by decide +kernel
theorem dX12_calls_100 : decode cX12_calls 100 = .ok (.iadd, 1) := by decide +kernel
theorem dX12_calls_101 : decode cX12_calls 101 = .ok (.ireturn, 1) := by decide +kernel
theorem dX12_goesWith_0 : decode cX12_goesWith 0 = .ok (.iload_n 1, 1) := by decide +kernel
theorem dX12_goesWith_1 : decode cX12_goesWith 1 = .ok (.iconst 1, 1) := by decide +kernel
theorem dX12_goesWith_2 : decode cX12_goesWith 2 = .ok (.isub, 1) := by decide +kernel
theorem dX12_goesWith_3 : decode cX12_goesWith 3 = .ok (.istore_n 2, 1) := by decide +kernel
theorem dX12_goesWith_4 : decode cX12_goesWith 4 = .ok (.aload_n 0, 1) := by decide +kernel
theorem dX12_goesWith_5 : decode cX12_goesWith 5 = .ok (.getfield 7, 3) := by decide +kernel
theorem dX12_goesWith_8 : decode cX12_goesWith 8 = .ok (.bipush 8, 2) := by decide +kernel
theorem dX12_goesWith_10 : decode cX12_goesWith 10 = .ok (.aload_n 0, 1) := by decide +kernel
theorem dX12_goesWith_11 : decode cX12_goesWith 11 = .ok (.getfield 7, 3) := by decide +kernel
theorem dX12_goesWith_14 : decode cX12_goesWith 14 = .ok (.bipush 8, 2) := by decide +kernel
theorem dX12_goesWith_16 : decode cX12_goesWith 16 = .ok (.iaload, 1) := by decide +kernel
theorem dX12_goesWith_17 : decode cX12_goesWith 17 = .ok (.aload_n 0, 1) := by decide +kernel
theorem dX12_goesWith_18 : decode cX12_goesWith 18 = .ok (.getfield 7, 3) := by decide +kernel
theorem dX12_goesWith_21 : decode cX12_goesWith 21 = .ok (.bipush 58, 2) := by decide +kernel
theorem dX12_goesWith_23 : decode cX12_goesWith 23 = .ok (.aload_n 0, 1) := by decide +kernel
theorem dX12_goesWith_24 : decode cX12_goesWith 24 = .ok (.getfield 7, 3) := by decide +kernel
theorem dX12_goesWith_27 : decode cX12_goesWith 27 = .ok (.iconst 1, 1) := by decide +kernel
theorem dX12_goesWith_28 : decode cX12_goesWith 28 = .ok (.iaload, 1) := by decide +kernel
theorem dX12_goesWith_29 : decode cX12_goesWith 29 = .ok (.iadd, 1) := by decide +kernel
theorem dX12_goesWith_30 : decode cX12_goesWith 30 = .ok (.iaload, 1) := by decide +kernel
theorem dX12_goesWith_31 : decode cX12_goesWith 31 = .ok (.invokestatic 244, 3) := by decide +kernel
theorem dX12_goesWith_34 : decode cX12_goesWith 34 = .ok (.iastore, 1) := by decide +kernel
theorem dX12_goesWith_35 : decode cX12_goesWith 35 = .ok (.iload_n 2, 1) := by decide +kernel
theorem dX12_goesWith_36 : decode cX12_goesWith 36 = .ok (.ifCond .lt 21, 3) := by decide +kernel
theorem dX12_goesWith_39 : decode cX12_goesWith 39 = .ok (.aload_n 0, 1) := by decide +kernel
theorem dX12_goesWith_40 : decode cX12_goesWith 40 = .ok (.iload_n 2, 1) := by decide +kernel
theorem dX12_goesWith_41 : decode cX12_goesWith 41 = .ok (.iconst 4, 1) := by decide +kernel
theorem dX12_goesWith_42 : decode cX12_goesWith 42 = .ok (.invokevirtual 79, 3) := by decide +kernel
theorem dX12_goesWith_45 : decode cX12_goesWith 45 = .ok (.iconst 1, 1) := by decide +kernel
theorem dX12_goesWith_46 : decode cX12_goesWith 46 = .ok (.if_icmp .ne 11, 3) := by decide +kernel
theorem dX12_goesWith_49 : decode cX12_goesWith 49 = .ok (.aload_n 0, 1) := by decide +kernel
theorem dX12_goesWith_50 : decode cX12_goesWith 50 = .ok (.iload_n 2, 1) := by decide +kernel
theorem dX12_goesWith_51 : decode cX12_goesWith 51 = .ok (.invokevirtual 247, 3) := by decide +kernel
theorem dX12_goesWith_54 : decode cX12_goesWith 54 = .ok (.goto 4, 3) := by decide +kernel
theorem dX12_goesWith_57 : decode cX12_goesWith 57 = .ok (.iconst 0, 1) := by decide +kernel
theorem dX12_goesWith_58 : decode cX12_goesWith 58 = .ok (.istore_n 3, 1) := by decide +kernel
theorem dX12_goesWith_59 : decode cX12_goesWith 59 = .ok (.aload_n 0, 1) := by decide +kernel
theorem dX12_goesWith_60 : decode cX12_goesWith 60 = .ok (.getfield 7, 3) := by decide +kernel
theorem dX12_goesWith_63 : decode cX12_goesWith 63 = .ok (.bipush 9, 2) := by decide +kernel
theorem dX12_goesWith_65 : decode cX12_goesWith 65 = .ok (.bipush 99, 2) := by decide +kernel
theorem dX12_goesWith_67 : decode cX12_goesWith 67 = .ok (.aload_n 0, 1) := by decide +kernel
theorem dX12_goesWith_68 : decode cX12_goesWith 68 = .ok (.getfield 7, 3) := by decide +kernel
theorem dX12_goesWith_71 : decode cX12_goesWith 71 = .ok (.bipush 9, 2) := by decide +kernel
theorem dX12_goesWith_73 : decode cX12_goesWith 73 = .ok (.iaload, 1) := by decide +kernel
theorem dX12_goesWith_74 : decode cX12_goesWith 74 = .ok (.bipush 6, 2) := by decide +kernel
theorem dX12_goesWith_76 : decode cX12_goesWith 76 = .ok (.iadd, 1) := by decide +kernel
theorem dX12_goesWith_77 : decode cX12_goesWith 77 = .ok (.aload_n 0, 1) := by decide +kernel
theorem dX12_goesWith_78 : decode cX12_goesWith 78 = .ok (.getfield 7, 3) := by decide +kernel
theorem dX12_goesWith_81 : decode cX12_goesWith 81 = .ok (.bipush 8, 2) := by decide +kernel
theorem dX12_goesWith_83 : decode cX12_goesWith 83 = .ok (.iaload, 1) := by decide +kernel
theorem dX12_goesWith_84 : decode cX12_goesWith 84 = .ok (.iconst 2, 1) := by decide +kernel
theorem dX12_goesWith_85 : decode cX12_goesWith 85 = .ok (.idiv, 1) := by decide +kernel
theorem dX12_goesWith_86 : decode cX12_goesWith 86 = .ok (.isub, 1) := by decide +kernel
theorem dX12_goesWith_87 : decode cX12_goesWith 87 = .ok (.invokestatic 75, 3) := by decide +kernel
theorem dX12_goesWith_90 : decode cX12_goesWith 90 = .ok (.iastore, 1) := by decide +kernel
theorem dX12_goesWith_91 : decode cX12_goesWith 91 = .ok (.aload_n 0, 1) := by decide +kernel
theorem dX12_goesWith_92 : decode cX12_goesWith 92 = .ok (.getfield 7, 3) := by decide +kernel
theorem dX12_goesWith_95 : decode cX12_goesWith 95 = .ok (.iconst 1, 1) := by decide +kernel
theorem dX12_goesWith_96 : decode cX12_goesWith 96 = .ok (.dup2, 1) := by decide +kernel
theorem dX12_goesWith_97 : decode cX12_goesWith 97 = .ok (.iaload, 1) := by decide +kernel
theorem dX12_goesWith_98 : decode cX12_goesWith 98 = .ok (.iconst 1, 1) := by decide +kernel
theorem dX12_goesWith_99 : decode cX12_goesWith 99 = .ok (.iadd, 1) := by decide +kernel
theorem dX12_goesWith_100 : decode cX12_goesWith 100 = .ok (.iastore, 1) := by decide +kernel
theorem dX12_goesWith_101 : decode cX12_goesWith 101 = .ok (.aload_n 0, 1) := by decide +kernel
theorem dX12_goesWith_102 : decode cX12_goesWith 102 = .ok (.getfield 7, 3) := by decide +kernel
theorem dX12_goesWith_105 : decode cX12_goesWith 105 = .ok (.iconst 3, 1) := by decide +kernel
theorem dX12_goesWith_106 : decode cX12_goesWith 106 = .ok (.dup2, 1) := by decide +kernel
theorem dX12_goesWith_107 : decode cX12_goesWith 107 = .ok (.iaload, 1) := by decide +kernel
theorem dX12_goesWith_108 : decode cX12_goesWith 108 = .ok (.iload_n 3, 1) := by decide +kernel
theorem dX12_goesWith_109 : decode cX12_goesWith 109 = .ok (.iadd, 1) := by decide +kernel
theorem dX12_goesWith_110 : decode cX12_goesWith 110 = .ok (.iastore, 1) := by decide +kernel
theorem dX12_goesWith_111 : decode cX12_goesWith 111 = .ok (.iload_n 3, 1) := by decide +kernel
theorem dX12_goesWith_112 : decode cX12_goesWith 112 = .ok (.ireturn, 1) := by decide +kernel
theorem dX12_restAct_0 : decode cX12_restAct 0 = .ok (.iconst 0, 1) := by decide +kernel
theorem dX12_restAct_1 : decode cX12_restAct 1 = .ok (.istore_n 1, 1) := by decide +kernel
theorem dX12_restAct_2 : decode cX12_restAct 2 = .ok (.iload_n 1, 1) := by decide +kernel
theorem dX12_restAct_3 : decode cX12_restAct 3 = .ok (.aload_n 0, 1) := by decide +kernel
theorem dX12_restAct_4 : decode cX12_restAct 4 = .ok (.getfield 7, 3) := by decide +kernel
theorem dX12_restAct_7 : decode cX12_restAct 7 = .ok (.iconst 0, 1) := by decide +kernel
theorem dX12_restAct_8 : decode cX12_restAct 8 = .ok (.iaload, 1) := by decide +kernel
theorem dX12_restAct_9 : decode cX12_restAct 9 = .ok (.if_icmp .ge 31, 3) := by decide +kernel
theorem dX12_restAct_12 : decode cX12_restAct 12 = .ok (.aload_n 0, 1) := by decide +kernel
theorem dX12_restAct_13 : decode cX12_restAct 13 = .ok (.iload_n 1, 1) := by decide +kernel
theorem dX12_restAct_14 : decode cX12_restAct 14 = .ok (.iconst 4, 1) := by decide +kernel
theorem dX12_restAct_15 : decode cX12_restAct 15 = .ok (.invokevirtual 79, 3) := by decide +kernel
theorem dX12_restAct_18 : decode cX12_restAct 18 = .ok (.iconst 1, 1) := by decide +kernel
theorem dX12_restAct_19 : decode cX12_restAct 19 = .ok (.if_icmp .ne 15, 3) := by decide +kernel
theorem dX12_restAct_22 : decode cX12_restAct 22 = .ok (.aload_n 0, 1) := by decide +kernel
theorem dX12_restAct_23 : decode cX12_restAct 23 = .ok (.iload_n 1, 1) := by decide +kernel
theorem dX12_restAct_24 : decode cX12_restAct 24 = .ok (.invokevirtual 241, 3) := by decide +kernel
theorem dX12_restAct_27 : decode cX12_restAct 27 = .ok (.ifCond .eq 7, 3) := by decide +kernel
theorem dX12_restAct_30 : decode cX12_restAct 30 = .ok (.iload_n 1, 1) := by decide +kernel
theorem dX12_restAct_31 : decode cX12_restAct 31 = .ok (.iconst 1, 1) := by decide +kernel
theorem dX12_restAct_32 : decode cX12_restAct 32 = .ok (.iadd, 1) := by decide +kernel
theorem dX12_restAct_33 : decode cX12_restAct 33 = .ok (.ireturn, 1) := by decide +kernel
theorem dX12_restAct_34 : decode cX12_restAct 34 = .ok (.iinc 1 1, 3) := by decide +kernel
theorem dX12_restAct_37 : decode cX12_restAct 37 = .ok (.goto (-35), 3) := by decide +kernel
theorem dX12_restAct_40 : decode cX12_restAct 40 = .ok (.iconst 0, 1) := by decide +kernel
theorem dX12_restAct_41 : decode cX12_restAct 41 = .ok (.ireturn, 1) := by decide +kernel
theorem dX12_hour_0 : decode cX12_hour 0 = .ok (.aload_n 0, 1) := by decide +kernel
theorem dX12_hour_1 : decode cX12_hour 1 = .ok (.invokevirtual 139, 3) := by decide +kernel
theorem dX12_hour_4 : decode cX12_hour 4 = .ok (.ifCond .eq 8, 3) := by decide +kernel
theorem dX12_hour_7 : decode cX12_hour 7 = .ok (.bipush (-4), 2) := by decide +kernel
theorem dX12_hour_9 : decode cX12_hour 9 = .ok (.goto 11, 3) := by decide +kernel
theorem dX12_hour_12 : decode cX12_hour 12 = .ok (.aload_n 0, 1) := by decide +kernel
theorem dX12_hour_13 : decode cX12_hour 13 = .ok (.aload_n 0, 1) := by decide +kernel
theorem dX12_hour_14 : decode cX12_hour 14 = .ok (.invokevirtual 250, 3) := by decide +kernel
theorem dX12_hour_17 : decode cX12_hour 17 = .ok (.invokevirtual 253, 3) := by decide +kernel
theorem dX12_hour_20 : decode cX12_hour 20 = .ok (.ireturn, 1) := by decide +kernel
theorem dX12_onBy_0 : decode cX12_onBy 0 = .ok (.aload_n 0, 1) := by decide +kernel
theorem dX12_onBy_1 : decode cX12_onBy 1 = .ok (.iconst 0, 1) := by decide +kernel
theorem dX12_onBy_2 : decode cX12_onBy 2 = .ok (.invokevirtual 256, 3) := by decide +kernel
theorem dX12_onBy_5 : decode cX12_onBy 5 = .ok (.iconst 0, 1) := by decide +kernel
theorem dX12_onBy_6 : decode cX12_onBy 6 = .ok (.istore_n 2, 1) := by decide +kernel
theorem dX12_onBy_7 : decode cX12_onBy 7 = .ok (.iconst 0, 1) := by decide +kernel
theorem dX12_onBy_8 : decode cX12_onBy 8 = .ok (.istore_n 3, 1) := by decide +kernel
theorem dX12_onBy_9 : decode cX12_onBy 9 = .ok (.iload_n 3, 1) := by decide +kernel
theorem dX12_onBy_10 : decode cX12_onBy 10 = .ok (.iload_n 1, 1) := by decide +kernel
theorem dX12_onBy_11 : decode cX12_onBy 11 = .ok (.if_icmp .ge 27, 3) := by decide +kernel
theorem dX12_onBy_14 : decode cX12_onBy 14 = .ok (.aload_n 0, 1) := by decide +kernel
theorem dX12_onBy_15 : decode cX12_onBy 15 = .ok (.invokevirtual 139, 3) := by decide +kernel
theorem dX12_onBy_18 : decode cX12_onBy 18 = .ok (.ifCond .ne 20, 3) := by decide +kernel
theorem dX12_onBy_21 : decode cX12_onBy 21 = .ok (.iload_n 2, 1) := by decide +kernel
theorem dX12_onBy_22 : decode cX12_onBy 22 = .ok (.aload_n 0, 1) := by decide +kernel
theorem dX12_onBy_23 : decode cX12_onBy 23 = .ok (.aload_n 0, 1) := by decide +kernel
theorem dX12_onBy_24 : decode cX12_onBy 24 = .ok (.invokevirtual 250, 3) := by decide +kernel
theorem dX12_onBy_27 : decode cX12_onBy 27 = .ok (.invokevirtual 253, 3) := by decide +kernel
theorem dX12_onBy_30 : decode cX12_onBy 30 = .ok (.iadd, 1) := by decide +kernel
theorem dX12_onBy_31 : decode cX12_onBy 31 = .ok (.istore_n 2, 1) := by decide +kernel
theorem dX12_onBy_32 : decode cX12_onBy 32 = .ok (.iinc 3 1, 3) := by decide +kernel
theorem dX12_onBy_35 : decode cX12_onBy 35 = .ok (.goto (-26), 3) := by decide +kernel
theorem dX12_onBy_38 : decode cX12_onBy 38 = .ok (.aload_n 0, 1) := by decide +kernel
theorem dX12_onBy_39 : decode cX12_onBy 39 = .ok (.iconst 0, 1) := by decide +kernel
theorem dX12_onBy_40 : decode cX12_onBy 40 = .ok (.invokevirtual 260, 3) := by decide +kernel
theorem dX12_onBy_43 : decode cX12_onBy 43 = .ok (.iload_n 2, 1) := by decide +kernel
theorem dX12_onBy_44 : decode cX12_onBy 44 = .ok (.ireturn, 1) := by decide +kernel
theorem dX12_on_0 : decode cX12_on 0 = .ok (.iload_n 1, 1) := by decide +kernel
theorem dX12_on_1 : decode cX12_on 1 = .ok (.i2l, 1) := by decide +kernel
theorem dX12_on_2 : decode cX12_on 2 = .ok (.lconst 0, 1) := by decide +kernel
theorem dX12_on_3 : decode cX12_on 3 = .ok (.ldc2_w 134, 3) := by decide +kernel
theorem dX12_on_6 : decode cX12_on 6 = .ok (.invokestatic 63, 3) := by decide +kernel
theorem dX12_on_9 : decode cX12_on 9 = .ok (.ifCond .eq 11, 3) := by decide +kernel
theorem dX12_on_12 : decode cX12_on 12 = .ok (.aload_n 0, 1) := by decide +kernel
theorem dX12_on_13 : decode cX12_on 13 = .ok (.iload_n 1, 1) := by decide +kernel
theorem dX12_on_14 : decode cX12_on 14 = .ok (.invokevirtual 263, 3) := by decide +kernel
theorem dX12_on_17 : decode cX12_on 17 = .ok (.goto 4, 3) := by decide +kernel
theorem dX12_on_20 : decode cX12_on 20 = .ok (.iconst (-1), 1) := by decide +kernel
theorem dX12_on_21 : decode cX12_on 21 = .ok (.ireturn, 1) := by decide +kernel
theorem dX12_when_0 : decode cX12_when 0 = .ok (.aload_n 0, 1) := by decide +kernel
theorem dX12_when_1 : decode cX12_when 1 = .ok (.iload_n 1, 1) := by decide +kernel
theorem dX12_when_2 : decode cX12_when 2 = .ok (.invokevirtual 110, 3) := by decide +kernel
theorem dX12_when_5 : decode cX12_when 5 = .ok (.ifCond .ne 5, 3) := by decide +kernel
theorem dX12_when_8 : decode cX12_when 8 = .ok (.iconst (-1), 1) := by decide +kernel
theorem dX12_when_9 : decode cX12_when 9 = .ok (.ireturn, 1) := by decide +kernel
theorem dX12_when_10 : decode cX12_when 10 = .ok (.aload_n 0, 1) := by decide +kernel
theorem dX12_when_11 : decode cX12_when 11 = .ok (.iload_n 1, 1) := by decide +kernel
theorem dX12_when_12 : decode cX12_when 12 = .ok (.iconst 4, 1) := by decide +kernel
theorem dX12_when_13 : decode cX12_when 13 = .ok (.invokevirtual 79, 3) := by decide +kernel
theorem dX12_when_16 : decode cX12_when 16 = .ok (.ifCond .ne 6, 3) := by decide +kernel
theorem dX12_when_19 : decode cX12_when 19 = .ok (.bipush (-3), 2) := by decide +kernel
theorem dX12_when_21 : decode cX12_when 21 = .ok (.ireturn, 1) := by decide +kernel
theorem dX12_when_22 : decode cX12_when 22 = .ok (.aload_n 0, 1) := by decide +kernel
theorem dX12_when_23 : decode cX12_when 23 = .ok (.iconst 0, 1) := by decide +kernel
theorem dX12_when_24 : decode cX12_when 24 = .ok (.invokevirtual 256, 3) := by decide +kernel
theorem dX12_when_27 : decode cX12_when 27 = .ok (.aload_n 0, 1) := by decide +kernel
theorem dX12_when_28 : decode cX12_when 28 = .ok (.invokevirtual 139, 3) := by decide +kernel
theorem dX12_when_31 : decode cX12_when 31 = .ok (.ifCond .ne 25, 3) := by decide +kernel
theorem dX12_when_34 : decode cX12_when 34 = .ok (.aload_n 0, 1) := by decide +kernel
theorem dX12_when_35 : decode cX12_when 35 = .ok (.iload_n 1, 1) := by decide +kernel
theorem dX12_when_36 : decode cX12_when 36 = .ok (.iconst 4, 1) := by decide +kernel
theorem dX12_when_37 : decode cX12_when 37 = .ok (.invokevirtual 79, 3) := by decide +kernel
theorem dX12_when_40 : decode cX12_when 40 = .ok (.iconst 1, 1) := by decide +kernel
theorem dX12_when_41 : decode cX12_when 41 = .ok (.if_icmp .ne 15, 3) := by decide +kernel
theorem dX12_when_44 : decode cX12_when 44 = .ok (.aload_n 0, 1) := by decide +kernel
theorem dX12_when_45 : decode cX12_when 45 = .ok (.aload_n 0, 1) := by decide +kernel
theorem dX12_when_46 : decode cX12_when 46 = .ok (.invokevirtual 250, 3) := by decide +kernel
theorem dX12_when_49 : decode cX12_when 49 = .ok (.invokevirtual 253, 3) := by decide +kernel
theorem dX12_when_52 : decode cX12_when 52 = .ok (.istore_n 2, 1) := by decide +kernel
theorem dX12_when_53 : decode cX12_when 53 = .ok (.goto (-26), 3) := by decide +kernel
theorem dX12_when_56 : decode cX12_when 56 = .ok (.aload_n 0, 1) := by decide +kernel
theorem dX12_when_57 : decode cX12_when 57 = .ok (.iload_n 1, 1) := by decide +kernel
theorem dX12_when_58 : decode cX12_when 58 = .ok (.iconst 4, 1) := by decide +kernel
theorem dX12_when_59 : decode cX12_when 59 = .ok (.invokevirtual 79, 3) := by decide +kernel
theorem dX12_when_62 : decode cX12_when 62 = .ok (.iconst 1, 1) := by decide +kernel
theorem dX12_when_63 : decode cX12_when 63 = .ok (.if_icmp .ne 8, 3) := by decide +kernel
theorem dX12_when_66 : decode cX12_when 66 = .ok (.bipush (-3), 2) := by decide +kernel
theorem dX12_when_68 : decode cX12_when 68 = .ok (.goto 11, 3) := by decide +kernel
theorem dX12_when_71 : decode cX12_when 71 = .ok (.aload_n 0, 1) := by decide +kernel
theorem dX12_when_72 : decode cX12_when 72 = .ok (.getfield 7, 3) := by decide +kernel
theorem dX12_when_75 : decode cX12_when 75 = .ok (.iconst 1, 1) := by decide +kernel
theorem dX12_when_76 : decode cX12_when 76 = .ok (.iaload, 1) := by decide +kernel
theorem dX12_when_77 : decode cX12_when 77 = .ok (.iconst 1, 1) := by decide +kernel
theorem dX12_when_78 : decode cX12_when 78 = .ok (.isub, 1) := by decide +kernel
theorem dX12_when_79 : decode cX12_when 79 = .ok (.istore_n 2, 1) := by decide +kernel
theorem dX12_when_80 : decode cX12_when 80 = .ok (.aload_n 0, 1) := by decide +kernel
theorem dX12_when_81 : decode cX12_when 81 = .ok (.iconst 0, 1) := by decide +kernel
theorem dX12_when_82 : decode cX12_when 82 = .ok (.invokevirtual 260, 3) := by decide +kernel
theorem dX12_when_85 : decode cX12_when 85 = .ok (.iload_n 2, 1) := by decide +kernel
theorem dX12_when_86 : decode cX12_when 86 = .ok (.ireturn, 1) := by decide +kernel
theorem dX12_valueFor_0 : decode cX12_valueFor 0 = .ok (.bipush 10, 2) := by decide +kernel
theorem dX12_valueFor_2 : decode cX12_valueFor 2 = .ok (.bipush 6, 2) := by decide +kernel
theorem dX12_valueFor_4 : decode cX12_valueFor 4 = .ok (.iload_n 1, 1) := by decide +kernel
theorem dX12_valueFor_5 : decode cX12_valueFor 5 = .ok (.imul, 1) := by decide +kernel
theorem dX12_valueFor_6 : decode cX12_valueFor 6 = .ok (.iadd, 1) := by decide +kernel
theorem dX12_valueFor_7 : decode cX12_valueFor 7 = .ok (.iload_n 2, 1) := by decide +kernel
theorem dX12_valueFor_8 : decode cX12_valueFor 8 = .ok (.iadd, 1) := by decide +kernel
theorem dX12_valueFor_9 : decode cX12_valueFor 9 = .ok (.istore_n 3, 1) := by decide +kernel
theorem dX12_valueFor_10 : decode cX12_valueFor 10 = .ok (.aload_n 0, 1) := by decide +kernel
theorem dX12_valueFor_11 : decode cX12_valueFor 11 = .ok (.getfield 7, 3) := by decide +kernel
theorem dX12_valueFor_14 : decode cX12_valueFor 14 = .ok (.iload_n 3, 1) := by decide +kernel
theorem dX12_valueFor_15 : decode cX12_valueFor 15 = .ok (.iaload, 1) := by decide +kernel
theorem dX12_valueFor_16 : decode cX12_valueFor 16 = .ok (.istore 4, 2) := by decide +kernel
theorem dX12_valueFor_18 : decode cX12_valueFor 18 = .ok (.iconst 0, 1) := by decide +kernel
theorem dX12_valueFor_19 : decode cX12_valueFor 19 = .ok (.istore 5, 2) := by decide +kernel
theorem dX12_valueFor_21 : decode cX12_valueFor 21 = .ok (.iconst (-1), 1) := by decide +kernel
theorem dX12_valueFor_22 : decode cX12_valueFor 22 = .ok (.istore 6, 2) := by decide +kernel
theorem dX12_valueFor_24 : decode cX12_valueFor 24 = .ok (.iconst 0, 1) := by decide +kernel
theorem dX12_valueFor_25 : decode cX12_valueFor 25 = .ok (.istore 7, 2) := by decide +kernel
theorem dX12_valueFor_27 : decode cX12_valueFor 27 = .ok (.iload 7, 2) := by decide +kernel
theorem dX12_valueFor_29 : decode cX12_valueFor 29 = .ok (.iload_n 2, 1) := by decide +kernel
theorem dX12_valueFor_30 : decode cX12_valueFor 30 = .ok (.invokestatic 122, 3) := by decide +kernel
theorem dX12_valueFor_33 : decode cX12_valueFor 33 = .ok (.if_icmp .gt 50, 3) := by decide +kernel
theorem dX12_valueFor_36 : decode cX12_valueFor 36 = .ok (.aload_n 0, 1) := by decide +kernel
theorem dX12_valueFor_37 : decode cX12_valueFor 37 = .ok (.getfield 7, 3) := by decide +kernel
theorem dX12_valueFor_40 : decode cX12_valueFor 40 = .ok (.iload_n 3, 1) := by decide +kernel
theorem dX12_valueFor_41 : decode cX12_valueFor 41 = .ok (.iload 7, 2) := by decide +kernel
theorem dX12_valueFor_43 : decode cX12_valueFor 43 = .ok (.iastore, 1) := by decide +kernel
theorem dX12_valueFor_44 : decode cX12_valueFor 44 = .ok (.aload_n 0, 1) := by decide +kernel
theorem dX12_valueFor_45 : decode cX12_valueFor 45 = .ok (.bipush 16, 2) := by decide +kernel
theorem dX12_valueFor_47 : decode cX12_valueFor 47 = .ok (.invokevirtual 263, 3) := by decide +kernel
theorem dX12_valueFor_50 : decode cX12_valueFor 50 = .ok (.istore 8, 2) := by decide +kernel
theorem dX12_valueFor_52 : decode cX12_valueFor 52 = .ok (.iload 8, 2) := by decide +kernel
theorem dX12_valueFor_54 : decode cX12_valueFor 54 = .ok (.iload 6, 2) := by decide +kernel
theorem dX12_valueFor_56 : decode cX12_valueFor 56 = .ok (.if_icmp .le 8, 3) := by decide +kernel
theorem dX12_valueFor_59 : decode cX12_valueFor 59 = .ok (.iload 7, 2) := by decide +kernel
theorem dX12_valueFor_61 : decode cX12_valueFor 61 = .ok (.goto 5, 3) := by decide +kernel
theorem dX12_valueFor_64 : decode cX12_valueFor 64 = .ok (.iload 5, 2) := by decide +kernel
theorem dX12_valueFor_66 : decode cX12_valueFor 66 = .ok (.istore 5, 2) := by decide +kernel
theorem dX12_valueFor_68 : decode cX12_valueFor 68 = .ok (.iload 6, 2) := by decide +kernel
theorem dX12_valueFor_70 : decode cX12_valueFor 70 = .ok (.iload 8, 2) := by decide +kernel
theorem dX12_valueFor_72 : decode cX12_valueFor 72 = .ok (.invokestatic 238, 3) := by decide +kernel
theorem dX12_valueFor_75 : decode cX12_valueFor 75 = .ok (.istore 6, 2) := by decide +kernel
theorem dX12_valueFor_77 : decode cX12_valueFor 77 = .ok (.iinc 7 1, 3) := by decide +kernel
theorem dX12_valueFor_80 : decode cX12_valueFor 80 = .ok (.goto (-53), 3) := by decide +kernel
theorem dX12_valueFor_83 : decode cX12_valueFor 83 = .ok (.aload_n 0, 1) := by decide +kernel
theorem dX12_valueFor_84 : decode cX12_valueFor 84 = .ok (.getfield 7, 3) := by decide +kernel
theorem dX12_valueFor_87 : decode cX12_valueFor 87 = .ok (.iload_n 3, 1) := by decide +kernel
theorem dX12_valueFor_88 : decode cX12_valueFor 88 = .ok (.iload 4, 2) := by decide +kernel
theorem dX12_valueFor_90 : decode cX12_valueFor 90 = .ok (.iastore, 1) := by decide +kernel
theorem dX12_valueFor_91 : decode cX12_valueFor 91 = .ok (.iload 5, 2) := by decide +kernel
theorem dX12_valueFor_93 : decode cX12_valueFor 93 = .ok (.ireturn, 1) := by decide +kernel
theorem dX12_giftFor_0 : decode cX12_giftFor 0 = .ok (.aload_n 0, 1) := by decide +kernel
theorem dX12_giftFor_1 : decode cX12_giftFor 1 = .ok (.iload_n 1, 1) := by decide +kernel
theorem dX12_giftFor_2 : decode cX12_giftFor 2 = .ok (.invokevirtual 110, 3) := by decide +kernel
theorem dX12_giftFor_5 : decode cX12_giftFor 5 = .ok (.ifCond .eq 12, 3) := by decide +kernel
theorem dX12_giftFor_8 : decode cX12_giftFor 8 = .ok (.aload_n 0, 1) := by decide +kernel
theorem dX12_giftFor_9 : decode cX12_giftFor 9 = .ok (.iload_n 1, 1) := by decide +kernel
theorem dX12_giftFor_10 : decode cX12_giftFor 10 = .ok (.iconst 2, 1) := by decide +kernel
theorem dX12_giftFor_11 : decode cX12_giftFor 11 = .ok (.invokevirtual 266, 3) := by decide +kernel
theorem dX12_giftFor_14 : decode cX12_giftFor 14 = .ok (.goto 4, 3) := by decide +kernel
theorem dX12_giftFor_17 : decode cX12_giftFor 17 = .ok (.iconst (-1), 1) := by decide +kernel
theorem dX12_giftFor_18 : decode cX12_giftFor 18 = .ok (.ireturn, 1) := by decide +kernel
theorem dX12_dueFor_0 : decode cX12_dueFor 0 = .ok (.aload_n 0, 1) := by decide +kernel
theorem dX12_dueFor_1 : decode cX12_dueFor 1 = .ok (.iload_n 1, 1) := by decide +kernel
theorem dX12_dueFor_2 : decode cX12_dueFor 2 = .ok (.invokevirtual 110, 3) := by decide +kernel
theorem dX12_dueFor_5 : decode cX12_dueFor 5 = .ok (.ifCond .eq 12, 3) := by decide +kernel
theorem dX12_dueFor_8 : decode cX12_dueFor 8 = .ok (.aload_n 0, 1) := by decide +kernel
theorem dX12_dueFor_9 : decode cX12_dueFor 9 = .ok (.iload_n 1, 1) := by decide +kernel
theorem dX12_dueFor_10 : decode cX12_dueFor 10 = .ok (.iconst 1, 1) := by decide +kernel
theorem dX12_dueFor_11 : decode cX12_dueFor 11 = .ok (.invokevirtual 266, 3) := by decide +kernel
theorem dX12_dueFor_14 : decode cX12_dueFor 14 = .ok (.goto 4, 3) := by decide +kernel
theorem dX12_dueFor_17 : decode cX12_dueFor 17 = .ok (.iconst (-1), 1) := by decide +kernel
theorem dX12_dueFor_18 : decode cX12_dueFor 18 = .ok (.ireturn, 1) := by decide +kernel
theorem dX12_shows_0 : decode cX12_shows 0 = .ok (.iload_n 1, 1) := by decide +kernel
theorem dX12_shows_1 : decode cX12_shows 1 = .ok (.i2l, 1) := by decide +kernel
theorem dX12_shows_2 : decode cX12_shows 2 = .ok (.lconst 0, 1) := by decide +kernel
theorem dX12_shows_3 : decode cX12_shows 3 = .ok (.ldc2_w 132, 3) := by decide +kernel
theorem dX12_shows_6 : decode cX12_shows 6 = .ok (.invokestatic 63, 3) := by decide +kernel
theorem dX12_shows_9 : decode cX12_shows 9 = .ok (.ifCond .ne 5, 3) := by decide +kernel
theorem dX12_shows_12 : decode cX12_shows 12 = .ok (.iconst (-1), 1) := by decide +kernel
theorem dX12_shows_13 : decode cX12_shows 13 = .ok (.ireturn, 1) := by decide +kernel
theorem dX12_shows_14 : decode cX12_shows 14 = .ok (.aload_n 0, 1) := by decide +kernel
theorem dX12_shows_15 : decode cX12_shows 15 = .ok (.iconst 0, 1) := by decide +kernel
theorem dX12_shows_16 : decode cX12_shows 16 = .ok (.invokevirtual 256, 3) := by decide +kernel
theorem dX12_shows_19 : decode cX12_shows 19 = .ok (.bipush (-3), 2) := by decide +kernel
theorem dX12_shows_21 : decode cX12_shows 21 = .ok (.istore_n 2, 1) := by decide +kernel
theorem dX12_shows_22 : decode cX12_shows 22 = .ok (.aload_n 0, 1) := by decide +kernel
theorem dX12_shows_23 : decode cX12_shows 23 = .ok (.invokevirtual 139, 3) := by decide +kernel
theorem dX12_shows_26 : decode cX12_shows 26 = .ok (.ifCond .ne 41, 3) := by decide +kernel
theorem dX12_shows_29 : decode cX12_shows 29 = .ok (.iload_n 2, 1) := by decide +kernel
theorem dX12_shows_30 : decode cX12_shows 30 = .ok (.ifCond .ge 37, 3) := by decide +kernel
theorem dX12_shows_33 : decode cX12_shows 33 = .ok (.aload_n 0, 1) := by decide +kernel
theorem dX12_shows_34 : decode cX12_shows 34 = .ok (.iconst 0, 1) := by decide +kernel
theorem dX12_shows_35 : decode cX12_shows 35 = .ok (.invokevirtual 253, 3) := by decide +kernel
theorem dX12_shows_38 : decode cX12_shows 38 = .ok (.istore_n 3, 1) := by decide +kernel
theorem dX12_shows_39 : decode cX12_shows 39 = .ok (.aload_n 0, 1) := by decide +kernel
theorem dX12_shows_40 : decode cX12_shows 40 = .ok (.getfield 7, 3) := by decide +kernel
theorem dX12_shows_43 : decode cX12_shows 43 = .ok (.bipush 9, 2) := by decide +kernel
theorem dX12_shows_45 : decode cX12_shows 45 = .ok (.iaload, 1) := by decide +kernel
theorem dX12_shows_46 : decode cX12_shows 46 = .ok (.iload_n 1, 1) := by decide +kernel
theorem dX12_shows_47 : decode cX12_shows 47 = .ok (.if_icmp .lt 14, 3) := by decide +kernel
theorem dX12_shows_50 : decode cX12_shows 50 = .ok (.aload_n 0, 1) := by decide +kernel
theorem dX12_shows_51 : decode cX12_shows 51 = .ok (.getfield 7, 3) := by decide +kernel
theorem dX12_shows_54 : decode cX12_shows 54 = .ok (.iconst 1, 1) := by decide +kernel
theorem dX12_shows_55 : decode cX12_shows 55 = .ok (.iaload, 1) := by decide +kernel
theorem dX12_shows_56 : decode cX12_shows 56 = .ok (.iconst 1, 1) := by decide +kernel
theorem dX12_shows_57 : decode cX12_shows 57 = .ok (.isub, 1) := by decide +kernel
theorem dX12_shows_58 : decode cX12_shows 58 = .ok (.goto 5, 3) := by decide +kernel
theorem dX12_shows_61 : decode cX12_shows 61 = .ok (.bipush (-3), 2) := by decide +kernel
theorem dX12_shows_63 : decode cX12_shows 63 = .ok (.istore_n 2, 1) := by decide +kernel
theorem dX12_shows_64 : decode cX12_shows 64 = .ok (.goto (-42), 3) := by decide +kernel
theorem dX12_shows_67 : decode cX12_shows 67 = .ok (.aload_n 0, 1) := by decide +kernel
theorem dX12_shows_68 : decode cX12_shows 68 = .ok (.iconst 0, 1) := by decide +kernel
theorem dX12_shows_69 : decode cX12_shows 69 = .ok (.invokevirtual 260, 3) := by decide +kernel
theorem dX12_shows_72 : decode cX12_shows 72 = .ok (.iload_n 2, 1) := by decide +kernel
theorem dX12_shows_73 : decode cX12_shows 73 = .ok (.ireturn, 1) := by decide +kernel
theorem dX12_right_0 : decode cX12_right 0 = .ok (.iload_n 1, 1) := by decide +kernel
theorem dX12_right_1 : decode cX12_right 1 = .ok (.i2l, 1) := by decide +kernel
theorem dX12_right_2 : decode cX12_right 2 = .ok (.lconst 0, 1) := by decide +kernel
theorem dX12_right_3 : decode cX12_right 3 = .ok (.lconst 1, 1) := by decide +kernel
theorem dX12_right_4 : decode cX12_right 4 = .ok (.invokestatic 63, 3) := by decide +kernel
theorem dX12_right_7 : decode cX12_right 7 = .ok (.ifCond .ne 5, 3) := by decide +kernel
theorem dX12_right_10 : decode cX12_right 10 = .ok (.iconst (-1), 1) := by decide +kernel
theorem dX12_right_11 : decode cX12_right 11 = .ok (.ireturn, 1) := by decide +kernel
theorem dX12_right_12 : decode cX12_right 12 = .ok (.aload_n 0, 1) := by decide +kernel
theorem dX12_right_13 : decode cX12_right 13 = .ok (.iconst 0, 1) := by decide +kernel
theorem dX12_right_14 : decode cX12_right 14 = .ok (.invokevirtual 256, 3) := by decide +kernel
theorem dX12_right_17 : decode cX12_right 17 = .ok (.iconst 0, 1) := by decide +kernel
theorem dX12_right_18 : decode cX12_right 18 = .ok (.istore_n 2, 1) := by decide +kernel
theorem dX12_right_19 : decode cX12_right 19 = .ok (.aload_n 0, 1) := by decide +kernel
theorem dX12_right_20 : decode cX12_right 20 = .ok (.invokevirtual 139, 3) := by decide +kernel
theorem dX12_right_23 : decode cX12_right 23 = .ok (.ifCond .ne 58, 3) := by decide +kernel
theorem dX12_right_26 : decode cX12_right 26 = .ok (.aload_n 0, 1) := by decide +kernel
theorem dX12_right_27 : decode cX12_right 27 = .ok (.aload_n 0, 1) := by decide +kernel
theorem dX12_right_28 : decode cX12_right 28 = .ok (.invokevirtual 250, 3) := by decide +kernel
theorem dX12_right_31 : decode cX12_right 31 = .ok (.invokevirtual 253, 3) := by decide +kernel
theorem dX12_right_34 : decode cX12_right 34 = .ok (.istore_n 3, 1) := by decide +kernel
theorem dX12_right_35 : decode cX12_right 35 = .ok (.aload_n 0, 1) := by decide +kernel
theorem dX12_right_36 : decode cX12_right 36 = .ok (.getfield 7, 3) := by decide +kernel
theorem dX12_right_39 : decode cX12_right 39 = .ok (.bipush 9, 2) := by decide +kernel
theorem dX12_right_41 : decode cX12_right 41 = .ok (.iaload, 1) := by decide +kernel
theorem dX12_right_42 : decode cX12_right 42 = .ok (.iconst 4, 1) := by decide +kernel
theorem dX12_right_43 : decode cX12_right 43 = .ok (.aload_n 0, 1) := by decide +kernel
theorem dX12_right_44 : decode cX12_right 44 = .ok (.getfield 7, 3) := by decide +kernel
theorem dX12_right_47 : decode cX12_right 47 = .ok (.iconst 1, 1) := by decide +kernel
theorem dX12_right_48 : decode cX12_right 48 = .ok (.iaload, 1) := by decide +kernel
theorem dX12_right_49 : decode cX12_right 49 = .ok (.imul, 1) := by decide +kernel
theorem dX12_right_50 : decode cX12_right 50 = .ok (.invokestatic 90, 3) := by decide +kernel
theorem dX12_right_53 : decode cX12_right 53 = .ok (.istore 4, 2) := by decide +kernel
theorem dX12_right_55 : decode cX12_right 55 = .ok (.iload_n 2, 1) := by decide +kernel
theorem dX12_right_56 : decode cX12_right 56 = .ok (.iload_n 1, 1) := by decide +kernel
theorem dX12_right_57 : decode cX12_right 57 = .ok (.iconst 1, 1) := by decide +kernel
theorem dX12_right_58 : decode cX12_right 58 = .ok (.if_icmp .ne 8, 3) := by decide +kernel
theorem dX12_right_61 : decode cX12_right 61 = .ok (.iload 4, 2) := by decide +kernel
theorem dX12_right_63 : decode cX12_right 63 = .ok (.goto 13, 3) := by decide +kernel
theorem dX12_right_66 : decode cX12_right 66 = .ok (.iload 4, 2) := by decide +kernel
theorem dX12_right_68 : decode cX12_right 68 = .ok (.ifCond .ne 7, 3) := by decide +kernel
theorem dX12_right_71 : decode cX12_right 71 = .ok (.iconst 1, 1) := by decide +kernel
theorem dX12_right_72 : decode cX12_right 72 = .ok (.goto 4, 3) := by decide +kernel
theorem dX12_right_75 : decode cX12_right 75 = .ok (.iconst 0, 1) := by decide +kernel
theorem dX12_right_76 : decode cX12_right 76 = .ok (.iadd, 1) := by decide +kernel
theorem dX12_right_77 : decode cX12_right 77 = .ok (.istore_n 2, 1) := by decide +kernel
theorem dX12_right_78 : decode cX12_right 78 = .ok (.goto (-59), 3) := by decide +kernel
theorem dX12_right_81 : decode cX12_right 81 = .ok (.aload_n 0, 1) := by decide +kernel
theorem dX12_right_82 : decode cX12_right 82 = .ok (.iconst 0, 1) := by decide +kernel
theorem dX12_right_83 : decode cX12_right 83 = .ok (.invokevirtual 260, 3) := by decide +kernel
theorem dX12_right_86 : decode cX12_right 86 = .ok (.iload_n 2, 1) := by decide +kernel
theorem dX12_right_87 : decode cX12_right 87 = .ok (.ireturn, 1) := by decide +kernel
theorem dX12_queueOf_0 : decode cX12_queueOf 0 = .ok (.aload_n 0, 1) := by decide +kernel
theorem dX12_queueOf_1 : decode cX12_queueOf 1 = .ok (.iload_n 1, 1) := by decide +kernel
theorem dX12_queueOf_2 : decode cX12_queueOf 2 = .ok (.iconst 4, 1) := by decide +kernel
theorem dX12_queueOf_3 : decode cX12_queueOf 3 = .ok (.invokevirtual 79, 3) := by decide +kernel
theorem dX12_queueOf_6 : decode cX12_queueOf 6 = .ok (.iload_n 1, 1) := by decide +kernel
theorem dX12_queueOf_7 : decode cX12_queueOf 7 = .ok (.ishl, 1) := by decide +kernel
theorem dX12_queueOf_8 : decode cX12_queueOf 8 = .ok (.istore_n 2, 1) := by decide +kernel
theorem dX12_queueOf_9 : decode cX12_queueOf 9 = .ok (.iconst 0, 1) := by decide +kernel
theorem dX12_queueOf_10 : decode cX12_queueOf 10 = .ok (.istore_n 3, 1) := by decide +kernel
theorem dX12_queueOf_11 : decode cX12_queueOf 11 = .ok (.iload_n 3, 1) := by decide +kernel
theorem dX12_queueOf_12 : decode cX12_queueOf 12 = .ok (.bipush 6, 2) := by decide +kernel
theorem dX12_queueOf_14 : decode cX12_queueOf 14 = .ok (.if_icmp .ge 123, 3) := by decide +kernel
theorem dX12_queueOf_17 : decode cX12_queueOf 17 = .ok (.iconst 0, 1) := by decide +kernel
theorem dX12_queueOf_18 : decode cX12_queueOf 18 = .ok (.istore 4, 2) := by decide +kernel
theorem dX12_queueOf_20 : decode cX12_queueOf 20 = .ok (.iload 4, 2) := by decide +kernel
theorem dX12_queueOf_22 : decode cX12_queueOf 22 = .ok (.aload_n 0, 1) := by decide +kernel
theorem dX12_queueOf_23 : decode cX12_queueOf 23 = .ok (.getfield 7, 3) := by decide +kernel
theorem dX12_queueOf_26 : decode cX12_queueOf 26 = .ok (.iconst 0, 1) := by decide +kernel
theorem dX12_queueOf_27 : decode cX12_queueOf 27 = .ok (.iaload, 1) := by decide +kernel
theorem dX12_queueOf_28 : decode cX12_queueOf 28 = .ok (.if_icmp .ge 103, 3) := by decide +kernel
theorem dX12_queueOf_31 : decode cX12_queueOf 31 = .ok (.iconst 0, 1) := by decide +kernel
theorem dX12_queueOf_32 : decode cX12_queueOf 32 = .ok (.istore 5, 2) := by decide +kernel
theorem dX12_queueOf_34 : decode cX12_queueOf 34 = .ok (.iload 5, 2) := by decide +kernel
theorem dX12_queueOf_36 : decode cX12_queueOf 36 = .ok (.aload_n 0, 1) := by decide +kernel
theorem dX12_queueOf_37 : decode cX12_queueOf 37 = .ok (.getfield 7, 3) := by decide +kernel
theorem dX12_queueOf_40 : decode cX12_queueOf 40 = .ok (.iconst 0, 1) := by decide +kernel
theorem dX12_queueOf_41 : decode cX12_queueOf 41 = .ok (.iaload, 1) := by decide +kernel
theorem dX12_queueOf_42 : decode cX12_queueOf 42 = .ok (.if_icmp .ge 83, 3) := by decide +kernel
theorem dX12_queueOf_45 : decode cX12_queueOf 45 = .ok (.aload_n 0, 1) := by decide +kernel
theorem dX12_queueOf_46 : decode cX12_queueOf 46 = .ok (.iload 4, 2) := by decide +kernel
theorem dX12_queueOf_48 : decode cX12_queueOf 48 = .ok (.iconst 4, 1) := by decide +kernel
theorem dX12_queueOf_49 : decode cX12_queueOf 49 = .ok (.invokevirtual 79, 3) := by decide +kernel
theorem dX12_queueOf_52 : decode cX12_queueOf 52 = .ok (.iconst 1, 1) := by decide +kernel
theorem dX12_queueOf_53 : decode cX12_queueOf 53 = .ok (.if_icmp .ne 37, 3) := by decide +kernel
theorem dX12_queueOf_56 : decode cX12_queueOf 56 = .ok (.aload_n 0, 1) := by decide +kernel
theorem dX12_queueOf_57 : decode cX12_queueOf 57 = .ok (.iload 5, 2) := by decide +kernel
theorem dX12_queueOf_59 : decode cX12_queueOf 59 = .ok (.iconst 4, 1) := by decide +kernel
theorem dX12_queueOf_60 : decode cX12_queueOf 60 = .ok (.invokevirtual 79, 3) := by decide +kernel
theorem dX12_queueOf_63 : decode cX12_queueOf 63 = .ok (.iconst 1, 1) := by decide +kernel
theorem dX12_queueOf_64 : decode cX12_queueOf 64 = .ok (.if_icmp .ne 26, 3) := by decide +kernel
theorem dX12_queueOf_67 : decode cX12_queueOf 67 = .ok (.aload_n 0, 1) := by decide +kernel
theorem dX12_queueOf_68 : decode cX12_queueOf 68 = .ok (.iload 4, 2) := by decide +kernel
theorem dX12_queueOf_70 : decode cX12_queueOf 70 = .ok (.invokevirtual 86, 3) := by decide +kernel
theorem dX12_queueOf_73 : decode cX12_queueOf 73 = .ok (.aload_n 0, 1) := by decide +kernel
theorem dX12_queueOf_74 : decode cX12_queueOf 74 = .ok (.iload 5, 2) := by decide +kernel
theorem dX12_queueOf_76 : decode cX12_queueOf 76 = .ok (.invokevirtual 86, 3) := by decide +kernel
theorem dX12_queueOf_79 : decode cX12_queueOf 79 = .ok (.invokestatic 90, 3) := by decide +kernel
theorem dX12_queueOf_82 : decode cX12_queueOf 82 = .ok (.iconst 2, 1) := by decide +kernel
theorem dX12_queueOf_83 : decode cX12_queueOf 83 = .ok (.if_icmp .gt 7, 3) := by decide +kernel
theorem dX12_queueOf_86 : decode cX12_queueOf 86 = .ok (.iconst 1, 1) := by decide +kernel
theorem dX12_queueOf_87 : decode cX12_queueOf 87 = .ok (.goto 4, 3) := by decide +kernel
theorem dX12_queueOf_90 : decode cX12_queueOf 90 = .ok (.iconst 0, 1) := by decide +kernel
theorem dX12_queueOf_91 : decode cX12_queueOf 91 = .ok (.istore 6, 2) := by decide +kernel
theorem dX12_queueOf_93 : decode cX12_queueOf 93 = .ok (.iload_n 2, 1) := by decide +kernel
theorem dX12_queueOf_94 : decode cX12_queueOf 94 = .ok (.iload 6, 2) := by decide +kernel
theorem dX12_queueOf_96 : decode cX12_queueOf 96 = .ok (.ifCond .eq 20, 3) := by decide +kernel
theorem dX12_queueOf_99 : decode cX12_queueOf 99 = .ok (.iload_n 2, 1) := by decide +kernel
theorem dX12_queueOf_100 : decode cX12_queueOf 100 = .ok (.iload 4, 2) := by decide +kernel
theorem dX12_queueOf_102 : decode cX12_queueOf 102 = .ok (.ishr, 1) := by decide +kernel
theorem dX12_queueOf_103 : decode cX12_queueOf 103 = .ok (.iconst 1, 1) := by decide +kernel
theorem dX12_queueOf_104 : decode cX12_queueOf 104 = .ok (.iand, 1) := by decide +kernel
theorem dX12_queueOf_105 : decode cX12_queueOf 105 = .ok (.iconst 1, 1) := by decide +kernel
theorem dX12_queueOf_106 : decode cX12_queueOf 106 = .ok (.if_icmp .ne 10, 3) := by decide +kernel
theorem dX12_queueOf_109 : decode cX12_queueOf 109 = .ok (.iconst 1, 1) := by decide +kernel
theorem dX12_queueOf_110 : decode cX12_queueOf 110 = .ok (.iload 5, 2) := by decide +kernel
theorem dX12_queueOf_112 : decode cX12_queueOf 112 = .ok (.ishl, 1) := by decide +kernel
theorem dX12_queueOf_113 : decode cX12_queueOf 113 = .ok (.goto 4, 3) := by decide +kernel
theorem dX12_queueOf_116 : decode cX12_queueOf 116 = .ok (.iconst 0, 1) := by decide +kernel
theorem dX12_queueOf_117 : decode cX12_queueOf 117 = .ok (.ior, 1) := by decide +kernel
theorem dX12_queueOf_118 : decode cX12_queueOf 118 = .ok (.istore_n 2, 1) := by decide +kernel
theorem dX12_queueOf_119 : decode cX12_queueOf 119 = .ok (.iinc 5 1, 3) := by decide +kernel
theorem dX12_queueOf_122 : decode cX12_queueOf 122 = .ok (.goto (-88), 3) := by decide +kernel
theorem dX12_queueOf_125 : decode cX12_queueOf 125 = .ok (.iinc 4 1, 3) := by decide +kernel
theorem dX12_queueOf_128 : decode cX12_queueOf 128 = .ok (.goto (-108), 3) := by decide +kernel
theorem dX12_queueOf_131 : decode cX12_queueOf 131 = .ok (.iinc 3 1, 3) := by decide +kernel
theorem dX12_queueOf_134 : decode cX12_queueOf 134 = .ok (.goto (-123), 3) := by decide +kernel
theorem dX12_queueOf_137 : decode cX12_queueOf 137 = .ok (.iload_n 2, 1) := by decide +kernel
theorem dX12_queueOf_138 : decode cX12_queueOf 138 = .ok (.ireturn, 1) := by decide +kernel
theorem dX12_queues_0 : decode cX12_queues 0 = .ok (.iload_n 1, 1) := by decide +kernel
theorem dX12_queues_1 : decode cX12_queues 1 = .ok (.iconst (-1), 1) := by decide +kernel
theorem dX12_queues_2 : decode cX12_queues 2 = .ok (.if_icmp .eq 13, 3) := by decide +kernel
theorem dX12_queues_5 : decode cX12_queues 5 = .ok (.aload_n 0, 1) := by decide +kernel
theorem dX12_queues_6 : decode cX12_queues 6 = .ok (.iload_n 1, 1) := by decide +kernel
theorem dX12_queues_7 : decode cX12_queues 7 = .ok (.invokevirtual 110, 3) := by decide +kernel
theorem dX12_queues_10 : decode cX12_queues 10 = .ok (.ifCond .ne 5, 3) := by decide +kernel
theorem dX12_queues_13 : decode cX12_queues 13 = .ok (.iconst (-1), 1) := by decide +kernel
theorem dX12_queues_14 : decode cX12_queues 14 = .ok (.ireturn, 1) := by decide +kernel
theorem dX12_queues_15 : decode cX12_queues 15 = .ok (.iload_n 1, 1) := by decide +kernel
theorem dX12_queues_16 : decode cX12_queues 16 = .ok (.ifCond .lt 9, 3) := by decide +kernel
theorem dX12_queues_19 : decode cX12_queues 19 = .ok (.aload_n 0, 1) := by decide +kernel
theorem dX12_queues_20 : decode cX12_queues 20 = .ok (.iload_n 1, 1) := by decide +kernel
theorem dX12_queues_21 : decode cX12_queues 21 = .ok (.invokevirtual 269, 3) := by decide +kernel
theorem dX12_queues_24 : decode cX12_queues 24 = .ok (.ireturn, 1) := by decide +kernel
theorem dX12_queues_25 : decode cX12_queues 25 = .ok (.iconst 0, 1) := by decide +kernel
theorem dX12_queues_26 : decode cX12_queues 26 = .ok (.istore_n 2, 1) := by decide +kernel
theorem dX12_queues_27 : decode cX12_queues 27 = .ok (.iconst 0, 1) := by decide +kernel
theorem dX12_queues_28 : decode cX12_queues 28 = .ok (.istore_n 3, 1) := by decide +kernel
theorem dX12_queues_29 : decode cX12_queues 29 = .ok (.iload_n 3, 1) := by decide +kernel
theorem dX12_queues_30 : decode cX12_queues 30 = .ok (.aload_n 0, 1) := by decide +kernel
theorem dX12_queues_31 : decode cX12_queues 31 = .ok (.getfield 7, 3) := by decide +kernel
theorem dX12_queues_34 : decode cX12_queues 34 = .ok (.iconst 0, 1) := by decide +kernel
theorem dX12_queues_35 : decode cX12_queues 35 = .ok (.iaload, 1) := by decide +kernel
theorem dX12_queues_36 : decode cX12_queues 36 = .ok (.if_icmp .ge 41, 3) := by decide +kernel
theorem dX12_queues_39 : decode cX12_queues 39 = .ok (.iload_n 2, 1) := by decide +kernel
theorem dX12_queues_40 : decode cX12_queues 40 = .ok (.aload_n 0, 1) := by decide +kernel
theorem dX12_queues_41 : decode cX12_queues 41 = .ok (.iload_n 3, 1) := by decide +kernel
theorem dX12_queues_42 : decode cX12_queues 42 = .ok (.iconst 4, 1) := by decide +kernel
theorem dX12_queues_43 : decode cX12_queues 43 = .ok (.invokevirtual 79, 3) := by decide +kernel
theorem dX12_queues_46 : decode cX12_queues 46 = .ok (.iconst 1, 1) := by decide +kernel
theorem dX12_queues_47 : decode cX12_queues 47 = .ok (.if_icmp .ne 21, 3) := by decide +kernel
theorem dX12_queues_50 : decode cX12_queues 50 = .ok (.aload_n 0, 1) := by decide +kernel
theorem dX12_queues_51 : decode cX12_queues 51 = .ok (.iload_n 3, 1) := by decide +kernel
theorem dX12_queues_52 : decode cX12_queues 52 = .ok (.invokevirtual 269, 3) := by decide +kernel
theorem dX12_queues_55 : decode cX12_queues 55 = .ok (.iconst 1, 1) := by decide +kernel
theorem dX12_queues_56 : decode cX12_queues 56 = .ok (.iload_n 3, 1) := by decide +kernel
theorem dX12_queues_57 : decode cX12_queues 57 = .ok (.ishl, 1) := by decide +kernel
theorem dX12_queues_58 : decode cX12_queues 58 = .ok (.iconst 1, 1) := by decide +kernel
theorem dX12_queues_59 : decode cX12_queues 59 = .ok (.isub, 1) := by decide +kernel
theorem dX12_queues_60 : decode cX12_queues 60 = .ok (.iand, 1) := by decide +kernel
theorem dX12_queues_61 : decode cX12_queues 61 = .ok (.ifCond .ne 7, 3) := by decide +kernel
theorem dX12_queues_64 : decode cX12_queues 64 = .ok (.iconst 1, 1) := by decide +kernel
theorem dX12_queues_65 : decode cX12_queues 65 = .ok (.goto 4, 3) := by decide +kernel
theorem dX12_queues_68 : decode cX12_queues 68 = .ok (.iconst 0, 1) := by decide +kernel
theorem dX12_queues_69 : decode cX12_queues 69 = .ok (.iadd, 1) := by decide +kernel
theorem dX12_queues_70 : decode cX12_queues 70 = .ok (.istore_n 2, 1) := by decide +kernel
theorem dX12_queues_71 : decode cX12_queues 71 = .ok (.iinc 3 1, 3) := by decide +kernel
theorem dX12_queues_74 : decode cX12_queues 74 = .ok (.goto (-45), 3) := by decide +kernel
theorem dX12_queues_77 : decode cX12_queues 77 = .ok (.iload_n 2, 1) := by decide +kernel
theorem dX12_queues_78 : decode cX12_queues 78 = .ok (.ireturn, 1) := by decide +kernel
theorem dX12_wayTo_0 : decode cX12_wayTo 0 = .ok (.bipush 99, 2) := by decide +kernel
theorem dX12_wayTo_2 : decode cX12_wayTo 2 = .ok (.istore_n 3, 1) := by decide +kernel
theorem dX12_wayTo_3 : decode cX12_wayTo 3 = .ok (.iconst (-1), 1) := by decide +kernel
theorem dX12_wayTo_4 : decode cX12_wayTo 4 = .ok (.istore 4, 2) := by decide +kernel
theorem dX12_wayTo_6 : decode cX12_wayTo 6 = .ok (.iconst 0, 1) := by decide +kernel
theorem dX12_wayTo_7 : decode cX12_wayTo 7 = .ok (.istore 5, 2) := by decide +kernel
theorem dX12_wayTo_9 : decode cX12_wayTo 9 = .ok (.iload 5, 2) := by decide +kernel
theorem dX12_wayTo_11 : decode cX12_wayTo 11 = .ok (.aload_n 0, 1) := by decide +kernel
theorem dX12_wayTo_12 : decode cX12_wayTo 12 = .ok (.getfield 7, 3) := by decide +kernel
theorem dX12_wayTo_15 : decode cX12_wayTo 15 = .ok (.iconst 0, 1) := by decide +kernel
theorem dX12_wayTo_16 : decode cX12_wayTo 16 = .ok (.iaload, 1) := by decide +kernel
theorem dX12_wayTo_17 : decode cX12_wayTo 17 = .ok (.if_icmp .ge 62, 3) := by decide +kernel
theorem dX12_wayTo_20 : decode cX12_wayTo 20 = .ok (.iload_n 1, 1) := by decide +kernel
theorem dX12_wayTo_21 : decode cX12_wayTo 21 = .ok (.iload 5, 2) := by decide +kernel
theorem dX12_wayTo_23 : decode cX12_wayTo 23 = .ok (.ishr, 1) := by decide +kernel
theorem dX12_wayTo_24 : decode cX12_wayTo 24 = .ok (.iconst 1, 1) := by decide +kernel
theorem dX12_wayTo_25 : decode cX12_wayTo 25 = .ok (.iand, 1) := by decide +kernel
theorem dX12_wayTo_26 : decode cX12_wayTo 26 = .ok (.iconst 1, 1) := by decide +kernel
theorem dX12_wayTo_27 : decode cX12_wayTo 27 = .ok (.if_icmp .ne 16, 3) := by decide +kernel
theorem dX12_wayTo_30 : decode cX12_wayTo 30 = .ok (.iload_n 3, 1) := by decide +kernel
theorem dX12_wayTo_31 : decode cX12_wayTo 31 = .ok (.aload_n 0, 1) := by decide +kernel
theorem dX12_wayTo_32 : decode cX12_wayTo 32 = .ok (.iload 5, 2) := by decide +kernel
theorem dX12_wayTo_34 : decode cX12_wayTo 34 = .ok (.invokevirtual 86, 3) := by decide +kernel
theorem dX12_wayTo_37 : decode cX12_wayTo 37 = .ok (.invokestatic 75, 3) := by decide +kernel
theorem dX12_wayTo_40 : decode cX12_wayTo 40 = .ok (.goto 4, 3) := by decide +kernel
theorem dX12_wayTo_43 : decode cX12_wayTo 43 = .ok (.iload_n 3, 1) := by decide +kernel
theorem dX12_wayTo_44 : decode cX12_wayTo 44 = .ok (.istore_n 3, 1) := by decide +kernel
theorem dX12_wayTo_45 : decode cX12_wayTo 45 = .ok (.iload_n 1, 1) := by decide +kernel
theorem dX12_wayTo_46 : decode cX12_wayTo 46 = .ok (.iload 5, 2) := by decide +kernel
theorem dX12_wayTo_48 : decode cX12_wayTo 48 = .ok (.ishr, 1) := by decide +kernel
theorem dX12_wayTo_49 : decode cX12_wayTo 49 = .ok (.iconst 1, 1) := by decide +kernel
theorem dX12_wayTo_50 : decode cX12_wayTo 50 = .ok (.iand, 1) := by decide +kernel
theorem dX12_wayTo_51 : decode cX12_wayTo 51 = .ok (.iconst 1, 1) := by decide +kernel
theorem dX12_wayTo_52 : decode cX12_wayTo 52 = .ok (.if_icmp .ne 17, 3) := by decide +kernel
theorem dX12_wayTo_55 : decode cX12_wayTo 55 = .ok (.iload 4, 2) := by decide +kernel
theorem dX12_wayTo_57 : decode cX12_wayTo 57 = .ok (.aload_n 0, 1) := by decide +kernel
theorem dX12_wayTo_58 : decode cX12_wayTo 58 = .ok (.iload 5, 2) := by decide +kernel
theorem dX12_wayTo_60 : decode cX12_wayTo 60 = .ok (.invokevirtual 86, 3) := by decide +kernel
theorem dX12_wayTo_63 : decode cX12_wayTo 63 = .ok (.invokestatic 238, 3) := by decide +kernel
theorem dX12_wayTo_66 : decode cX12_wayTo 66 = .ok (.goto 5, 3) := by decide +kernel
theorem dX12_wayTo_69 : decode cX12_wayTo 69 = .ok (.iload 4, 2) := by decide +kernel
theorem dX12_wayTo_71 : decode cX12_wayTo 71 = .ok (.istore 4, 2) := by decide +kernel
theorem dX12_wayTo_73 : decode cX12_wayTo 73 = .ok (.iinc 5 1, 3) := by decide +kernel
theorem dX12_wayTo_76 : decode cX12_wayTo 76 = .ok (.goto (-67), 3) := by decide +kernel
theorem dX12_wayTo_79 : decode cX12_wayTo 79 = .ok (.iload_n 1, 1) := by decide +kernel
theorem dX12_wayTo_80 : decode cX12_wayTo 80 = .ok (.ifCond .ne 7, 3) := by decide +kernel
theorem dX12_wayTo_83 : decode cX12_wayTo 83 = .ok (.iconst 0, 1) := by decide +kernel
theorem dX12_wayTo_84 : decode cX12_wayTo 84 = .ok (.goto 22, 3) := by decide +kernel
theorem dX12_wayTo_87 : decode cX12_wayTo 87 = .ok (.iload 4, 2) := by decide +kernel
theorem dX12_wayTo_89 : decode cX12_wayTo 89 = .ok (.iload_n 3, 1) := by decide +kernel
theorem dX12_wayTo_90 : decode cX12_wayTo 90 = .ok (.isub, 1) := by decide +kernel
theorem dX12_wayTo_91 : decode cX12_wayTo 91 = .ok (.iload_n 2, 1) := by decide +kernel
theorem dX12_wayTo_92 : decode cX12_wayTo 92 = .ok (.iload_n 3, 1) := by decide +kernel
theorem dX12_wayTo_93 : decode cX12_wayTo 93 = .ok (.invokestatic 90, 3) := by decide +kernel
theorem dX12_wayTo_96 : decode cX12_wayTo 96 = .ok (.iload_n 2, 1) := by decide +kernel
theorem dX12_wayTo_97 : decode cX12_wayTo 97 = .ok (.iload 4, 2) := by decide +kernel
theorem dX12_wayTo_99 : decode cX12_wayTo 99 = .ok (.invokestatic 90, 3) := by decide +kernel
theorem dX12_wayTo_102 : decode cX12_wayTo 102 = .ok (.invokestatic 75, 3) := by decide +kernel
theorem dX12_wayTo_105 : decode cX12_wayTo 105 = .ok (.iadd, 1) := by decide +kernel
theorem dX12_wayTo_106 : decode cX12_wayTo 106 = .ok (.ireturn, 1) := by decide +kernel
theorem dX12_errands_0 : decode cX12_errands 0 = .ok (.iload_n 1, 1) := by decide +kernel
theorem dX12_errands_1 : decode cX12_errands 1 = .ok (.i2l, 1) := by decide +kernel
theorem dX12_errands_2 : decode cX12_errands 2 = .ok (.lconst 0, 1) := by decide +kernel
theorem dX12_errands_3 : decode cX12_errands 3 = .ok (.ldc2_w 132, 3) := by decide +kernel
theorem dX12_errands_6 : decode cX12_errands 6 = .ok (.invokestatic 63, 3) := by decide +kernel
theorem dX12_errands_9 : decode cX12_errands 9 = .ok (.ifCond .eq 13, 3) := by decide +kernel
theorem dX12_errands_12 : decode cX12_errands 12 = .ok (.iload_n 2, 1) := by decide +kernel
theorem dX12_errands_13 : decode cX12_errands 13 = .ok (.i2l, 1) := by decide +kernel
theorem dX12_errands_14 : decode cX12_errands 14 = .ok (.lconst 0, 1) := by decide +kernel
theorem dX12_errands_15 : decode cX12_errands 15 = .ok (.lconst 1, 1) := by decide +kernel
theorem dX12_errands_16 : decode cX12_errands 16 = .ok (.invokestatic 63, 3) := by decide +kernel
theorem dX12_errands_19 : decode cX12_errands 19 = .ok (.ifCond .ne 5, 3) := by decide +kernel
theorem dX12_errands_22 : decode cX12_errands 22 = .ok (.iconst (-1), 1) := by decide +kernel
theorem dX12_errands_23 : decode cX12_errands 23 = .ok (.ireturn, 1) := by decide +kernel
theorem dX12_errands_24 : decode cX12_errands 24 = .ok (.iconst 1, 1) := by decide +kernel
theorem dX12_errands_25 : decode cX12_errands 25 = .ok (.aload_n 0, 1) := by decide +kernel
theorem dX12_errands_26 : decode cX12_errands 26 = .ok (.getfield 7, 3) := by decide +kernel
theorem dX12_errands_29 : decode cX12_errands 29 = .ok (.iconst 0, 1) := by decide +kernel
theorem dX12_errands_30 : decode cX12_errands 30 = .ok (.iaload, 1) := by decide +kernel
theorem dX12_errands_31 : decode cX12_errands 31 = .ok (.ishl, 1) := by decide +kernel
theorem dX12_errands_32 : decode cX12_errands 32 = .ok (.iconst 1, 1) := by decide +kernel
theorem dX12_errands_33 : decode cX12_errands 33 = .ok (.isub, 1) := by decide +kernel
theorem dX12_errands_34 : decode cX12_errands 34 = .ok (.aload_n 0, 1) := by decide +kernel
theorem dX12_errands_35 : decode cX12_errands 35 = .ok (.iconst 4, 1) := by decide +kernel
theorem dX12_errands_36 : decode cX12_errands 36 = .ok (.invokevirtual 136, 3) := by decide +kernel
theorem dX12_errands_39 : decode cX12_errands 39 = .ok (.iconst (-1), 1) := by decide +kernel
theorem dX12_errands_40 : decode cX12_errands 40 = .ok (.ixor, 1) := by decide +kernel
theorem dX12_errands_41 : decode cX12_errands 41 = .ok (.iand, 1) := by decide +kernel
theorem dX12_errands_42 : decode cX12_errands 42 = .ok (.istore_n 3, 1) := by decide +kernel
theorem dX12_errands_43 : decode cX12_errands 43 = .ok (.aload_n 0, 1) := by decide +kernel
theorem dX12_errands_44 : decode cX12_errands 44 = .ok (.iload_n 3, 1) := by decide +kernel
theorem dX12_errands_45 : decode cX12_errands 45 = .ok (.iload_n 1, 1) := by decide +kernel
theorem dX12_errands_46 : decode cX12_errands 46 = .ok (.invokevirtual 272, 3) := by decide +kernel
theorem dX12_errands_49 : decode cX12_errands 49 = .ok (.istore 4, 2) := by decide +kernel
theorem dX12_errands_51 : decode cX12_errands 51 = .ok (.iload_n 2, 1) := by decide +kernel
theorem dX12_errands_52 : decode cX12_errands 52 = .ok (.ifCond .ne 6, 3) := by decide +kernel
theorem dX12_errands_55 : decode cX12_errands 55 = .ok (.iload 4, 2) := by decide +kernel
theorem dX12_errands_57 : decode cX12_errands 57 = .ok (.ireturn, 1) := by decide +kernel
theorem dX12_errands_58 : decode cX12_errands 58 = .ok (.iconst 0, 1) := by decide +kernel
theorem dX12_errands_59 : decode cX12_errands 59 = .ok (.istore 5, 2) := by decide +kernel
theorem dX12_errands_61 : decode cX12_errands 61 = .ok (.iload 5, 2) := by decide +kernel
theorem dX12_errands_63 : decode cX12_errands 63 = .ok (.aload_n 0, 1) := by decide +kernel
theorem dX12_errands_64 : decode cX12_errands 64 = .ok (.getfield 7, 3) := by decide +kernel
theorem dX12_errands_67 : decode cX12_errands 67 = .ok (.iconst 0, 1) := by decide +kernel
theorem dX12_errands_68 : decode cX12_errands 68 = .ok (.iaload, 1) := by decide +kernel
theorem dX12_errands_69 : decode cX12_errands 69 = .ok (.if_icmp .ge 56, 3) := by decide +kernel
theorem dX12_errands_72 : decode cX12_errands 72 = .ok (.iload_n 3, 1) := by decide +kernel
theorem dX12_errands_73 : decode cX12_errands 73 = .ok (.iload 5, 2) := by decide +kernel
theorem dX12_errands_75 : decode cX12_errands 75 = .ok (.ishr, 1) := by decide +kernel
theorem dX12_errands_76 : decode cX12_errands 76 = .ok (.iconst 1, 1) := by decide +kernel
theorem dX12_errands_77 : decode cX12_errands 77 = .ok (.iand, 1) := by decide +kernel
theorem dX12_errands_78 : decode cX12_errands 78 = .ok (.iconst 1, 1) := by decide +kernel
theorem dX12_errands_79 : decode cX12_errands 79 = .ok (.if_icmp .ne 40, 3) := by decide +kernel
theorem dX12_errands_82 : decode cX12_errands 82 = .ok (.iload_n 1, 1) := by decide +kernel
theorem dX12_errands_83 : decode cX12_errands 83 = .ok (.aload_n 0, 1) := by decide +kernel
theorem dX12_errands_84 : decode cX12_errands 84 = .ok (.iload 5, 2) := by decide +kernel
theorem dX12_errands_86 : decode cX12_errands 86 = .ok (.invokevirtual 86, 3) := by decide +kernel
theorem dX12_errands_89 : decode cX12_errands 89 = .ok (.invokestatic 90, 3) := by decide +kernel
theorem dX12_errands_92 : decode cX12_errands 92 = .ok (.aload_n 0, 1) := by decide +kernel
theorem dX12_errands_93 : decode cX12_errands 93 = .ok (.iload_n 3, 1) := by decide +kernel
theorem dX12_errands_94 : decode cX12_errands 94 = .ok (.iconst 1, 1) := by decide +kernel
theorem dX12_errands_95 : decode cX12_errands 95 = .ok (.iload 5, 2) := by decide +kernel
theorem dX12_errands_97 : decode cX12_errands 97 = .ok (.ishl, 1) := by decide +kernel
theorem dX12_errands_98 : decode cX12_errands 98 = .ok (.iconst (-1), 1) := by decide +kernel
theorem dX12_errands_99 : decode cX12_errands 99 = .ok (.ixor, 1) := by decide +kernel
theorem dX12_errands_100 : decode cX12_errands 100 = .ok (.iand, 1) := by decide +kernel
theorem dX12_errands_101 : decode cX12_errands 101 = .ok (.aload_n 0, 1) := by decide +kernel
theorem dX12_errands_102 : decode cX12_errands 102 = .ok (.iload 5, 2) := by decide +kernel
theorem dX12_errands_104 : decode cX12_errands 104 = .ok (.invokevirtual 86, 3) := by decide +kernel
theorem dX12_errands_107 : decode cX12_errands 107 = .ok (.invokevirtual 272, 3) := by decide +kernel
theorem dX12_errands_110 : decode cX12_errands 110 = .ok (.iadd, 1) := by decide +kernel
theorem dX12_errands_111 : decode cX12_errands 111 = .ok (.iload 4, 2) := by decide +kernel
theorem dX12_errands_113 : decode cX12_errands 113 = .ok (.if_icmp .ne 6, 3) := by decide +kernel
theorem dX12_errands_116 : decode cX12_errands 116 = .ok (.iload 5, 2) := by decide +kernel
theorem dX12_errands_118 : decode cX12_errands 118 = .ok (.ireturn, 1) := by decide +kernel
theorem dX12_errands_119 : decode cX12_errands 119 = .ok (.iinc 5 1, 3) := by decide +kernel
theorem dX12_errands_122 : decode cX12_errands 122 = .ok (.goto (-61), 3) := by decide +kernel
theorem dX12_errands_125 : decode cX12_errands 125 = .ok (.bipush (-3), 2) := by decide +kernel
theorem dX12_errands_127 : decode cX12_errands 127 = .ok (.ireturn, 1) := by decide +kernel
theorem dX12_isSet_0 : decode cX12_isSet 0 = .ok (.iload_n 1, 1) := by decide +kernel
theorem dX12_isSet_1 : decode cX12_isSet 1 = .ok (.i2l, 1) := by decide +kernel
theorem dX12_isSet_2 : decode cX12_isSet 2 = .ok (.lconst 0, 1) := by decide +kernel
theorem dX12_isSet_3 : decode cX12_isSet 3 = .ok (.iconst 1, 1) := by decide +kernel
theorem dX12_isSet_4 : decode cX12_isSet 4 = .ok (.aload_n 0, 1) := by decide +kernel
theorem dX12_isSet_5 : decode cX12_isSet 5 = .ok (.getfield 7, 3) := by decide +kernel
theorem dX12_isSet_8 : decode cX12_isSet 8 = .ok (.iconst 0, 1) := by decide +kernel
theorem dX12_isSet_9 : decode cX12_isSet 9 = .ok (.iaload, 1) := by decide +kernel
theorem dX12_isSet_10 : decode cX12_isSet 10 = .ok (.ishl, 1) := by decide +kernel
theorem dX12_isSet_11 : decode cX12_isSet 11 = .ok (.iconst 1, 1) := by decide +kernel
theorem dX12_isSet_12 : decode cX12_isSet 12 = .ok (.isub, 1) := by decide +kernel
theorem dX12_isSet_13 : decode cX12_isSet 13 = .ok (.i2l, 1) := by decide +kernel
theorem dX12_isSet_14 : decode cX12_isSet 14 = .ok (.invokestatic 63, 3) := by decide +kernel
theorem dX12_isSet_17 : decode cX12_isSet 17 = .ok (.ireturn, 1) := by decide +kernel
theorem dX12_plans_0 : decode cX12_plans 0 = .ok (.iload_n 1, 1) := by decide +kernel
theorem dX12_plans_1 : decode cX12_plans 1 = .ok (.iload_n 2, 1) := by decide +kernel
theorem dX12_plans_2 : decode cX12_plans 2 = .ok (.if_icmp .eq 10, 3) := by decide +kernel
theorem dX12_plans_5 : decode cX12_plans 5 = .ok (.aload_n 0, 1) := by decide +kernel
theorem dX12_plans_6 : decode cX12_plans 6 = .ok (.invokevirtual 139, 3) := by decide +kernel
theorem dX12_plans_9 : decode cX12_plans 9 = .ok (.ifCond .eq 129, 3) := by decide +kernel
theorem dX12_plans_12 : decode cX12_plans 12 = .ok (.iload_n 3, 1) := by decide +kernel
theorem dX12_plans_13 : decode cX12_plans 13 = .ok (.aload_n 0, 1) := by decide +kernel
theorem dX12_plans_14 : decode cX12_plans 14 = .ok (.getfield 275, 3) := by decide +kernel
theorem dX12_plans_17 : decode cX12_plans 17 = .ok (.if_icmp .le 47, 3) := by decide +kernel
theorem dX12_plans_20 : decode cX12_plans 20 = .ok (.aload_n 0, 1) := by decide +kernel
theorem dX12_plans_21 : decode cX12_plans 21 = .ok (.iload_n 3, 1) := by decide +kernel
theorem dX12_plans_22 : decode cX12_plans 22 = .ok (.putfield 275, 3) := by decide +kernel
theorem dX12_plans_25 : decode cX12_plans 25 = .ok (.aload_n 0, 1) := by decide +kernel
theorem dX12_plans_26 : decode cX12_plans 26 = .ok (.iconst 0, 1) := by decide +kernel
theorem dX12_plans_27 : decode cX12_plans 27 = .ok (.putfield 278, 3) := by decide +kernel
theorem dX12_plans_30 : decode cX12_plans 30 = .ok (.aload_n 0, 1) := by decide +kernel
theorem dX12_plans_31 : decode cX12_plans 31 = .ok (.iload_n 1, 1) := by decide +kernel
theorem dX12_plans_32 : decode cX12_plans 32 = .ok (.putfield 281, 3) := by decide +kernel
theorem dX12_plans_35 : decode cX12_plans 35 = .ok (.iconst 0, 1) := by decide +kernel
theorem dX12_plans_36 : decode cX12_plans 36 = .ok (.istore 5, 2) := by decide +kernel
theorem dX12_plans_38 : decode cX12_plans 38 = .ok (.iload 5, 2) := by decide +kernel
theorem dX12_plans_40 : decode cX12_plans 40 = .ok (.iconst 4, 1) := by decide +kernel
theorem dX12_plans_41 : decode cX12_plans 41 = .ok (.if_icmp .ge 23, 3) := by decide +kernel
theorem dX12_plans_44 : decode cX12_plans 44 = .ok (.aload_n 0, 1) := by decide +kernel
theorem dX12_plans_45 : decode cX12_plans 45 = .ok (.getfield 28, 3) := by decide +kernel
theorem dX12_plans_48 : decode cX12_plans 48 = .ok (.iload 5, 2) := by decide +kernel
theorem dX12_plans_50 : decode cX12_plans 50 = .ok (.aload_n 0, 1) := by decide +kernel
theorem dX12_plans_51 : decode cX12_plans 51 = .ok (.getfield 25, 3) := by decide +kernel
theorem dX12_plans_54 : decode cX12_plans 54 = .ok (.iload 5, 2) := by decide +kernel
theorem dX12_plans_56 : decode cX12_plans 56 = .ok (.iaload, 1) := by decide +kernel
theorem dX12_plans_57 : decode cX12_plans 57 = .ok (.iastore, 1) := by decide +kernel
theorem dX12_plans_58 : decode cX12_plans 58 = .ok (.iinc 5 1, 3) := by decide +kernel
theorem dX12_plans_61 : decode cX12_plans 61 = .ok (.goto (-23), 3) := by decide +kernel
theorem dX12_plans_64 : decode cX12_plans 64 = .ok (.aload_n 0, 1) := by decide +kernel
theorem dX12_plans_65 : decode cX12_plans 65 = .ok (.dup, 1) := by decide +kernel
theorem dX12_plans_66 : decode cX12_plans 66 = .ok (.getfield 278, 3) := by decide +kernel
theorem dX12_plans_69 : decode cX12_plans 69 = .ok (.iload_n 3, 1) := by decide +kernel
theorem dX12_plans_70 : decode cX12_plans 70 = .ok (.aload_n 0, 1) := by decide +kernel
theorem dX12_plans_71 : decode cX12_plans 71 = .ok (.getfield 275, 3) := by decide +kernel
theorem dX12_plans_74 : decode cX12_plans 74 = .ok (.if_icmp .ne 7, 3) := by decide +kernel
theorem dX12_plans_77 : decode cX12_plans 77 = .ok (.iconst 1, 1) := by decide +kernel
theorem dX12_plans_78 : decode cX12_plans 78 = .ok (.goto 4, 3) := by decide +kernel
theorem dX12_plans_81 : decode cX12_plans 81 = .ok (.iconst 0, 1) := by decide +kernel
theorem dX12_plans_82 : decode cX12_plans 82 = .ok (.iadd, 1) := by decide +kernel
theorem dX12_plans_83 : decode cX12_plans 83 = .ok (.putfield 278, 3) := by decide +kernel
theorem dX12_plans_86 : decode cX12_plans 86 = .ok (.aload_n 0, 1) := by decide +kernel
theorem dX12_plans_87 : decode cX12_plans 87 = .ok (.invokevirtual 143, 3) := by decide +kernel
theorem dX12_plans_90 : decode cX12_plans 90 = .ok (.istore 5, 2) := by decide +kernel
theorem dX12_plans_92 : decode cX12_plans 92 = .ok (.aload_n 0, 1) := by decide +kernel
theorem dX12_plans_93 : decode cX12_plans 93 = .ok (.dup, 1) := by decide +kernel
theorem dX12_plans_94 : decode cX12_plans 94 = .ok (.getfield 284, 3) := by decide +kernel
theorem dX12_plans_97 : decode cX12_plans 97 = .ok (.iload 5, 2) := by decide +kernel
theorem dX12_plans_99 : decode cX12_plans 99 = .ok (.ior, 1) := by decide +kernel
theorem dX12_plans_100 : decode cX12_plans 100 = .ok (.putfield 284, 3) := by decide +kernel
theorem dX12_plans_103 : decode cX12_plans 103 = .ok (.aload_n 0, 1) := by decide +kernel
theorem dX12_plans_104 : decode cX12_plans 104 = .ok (.aload_n 0, 1) := by decide +kernel
theorem dX12_plans_105 : decode cX12_plans 105 = .ok (.getfield 287, 3) := by decide +kernel
theorem dX12_plans_108 : decode cX12_plans 108 = .ok (.iload 5, 2) := by decide +kernel
theorem dX12_plans_110 : decode cX12_plans 110 = .ok (.iconst (-1), 1) := by decide +kernel
theorem dX12_plans_111 : decode cX12_plans 111 = .ok (.ixor, 1) := by decide +kernel
theorem dX12_plans_112 : decode cX12_plans 112 = .ok (.iand, 1) := by decide +kernel
theorem dX12_plans_113 : decode cX12_plans 113 = .ok (.ifCond .ne 17, 3) := by decide +kernel
theorem dX12_plans_116 : decode cX12_plans 116 = .ok (.iload 4, 2) := by decide +kernel
theorem dX12_plans_118 : decode cX12_plans 118 = .ok (.aload_n 0, 1) := by decide +kernel
theorem dX12_plans_119 : decode cX12_plans 119 = .ok (.getfield 290, 3) := by decide +kernel
theorem dX12_plans_122 : decode cX12_plans 122 = .ok (.if_icmp .ge 8, 3) := by decide +kernel
theorem dX12_plans_125 : decode cX12_plans 125 = .ok (.iload 4, 2) := by decide +kernel
theorem dX12_plans_127 : decode cX12_plans 127 = .ok (.goto 7, 3) := by decide +kernel
theorem dX12_plans_130 : decode cX12_plans 130 = .ok (.aload_n 0, 1) := by decide +kernel
theorem dX12_plans_131 : decode cX12_plans 131 = .ok (.getfield 290, 3) := by decide +kernel
theorem dX12_plans_134 : decode cX12_plans 134 = .ok (.putfield 290, 3) := by decide +kernel
theorem dX12_plans_137 : decode cX12_plans 137 = .ok (.return_, 1) := by decide +kernel
theorem dX12_plans_138 : decode cX12_plans 138 = .ok (.aload_n 0, 1) := by decide +kernel
theorem dX12_plans_139 : decode cX12_plans 139 = .ok (.iload_n 1, 1) := by decide +kernel
theorem dX12_plans_140 : decode cX12_plans 140 = .ok (.invokevirtual 256, 3) := by decide +kernel
theorem dX12_plans_143 : decode cX12_plans 143 = .ok (.iconst 0, 1) := by decide +kernel
theorem dX12_plans_144 : decode cX12_plans 144 = .ok (.istore 5, 2) := by decide +kernel
theorem dX12_plans_146 : decode cX12_plans 146 = .ok (.iload 5, 2) := by decide +kernel
theorem dX12_plans_148 : decode cX12_plans 148 = .ok (.aload_n 0, 1) := by decide +kernel
theorem dX12_plans_149 : decode cX12_plans 149 = .ok (.getfield 7, 3) := by decide +kernel
theorem dX12_plans_152 : decode cX12_plans 152 = .ok (.iconst 0, 1) := by decide +kernel
theorem dX12_plans_153 : decode cX12_plans 153 = .ok (.iaload, 1) := by decide +kernel
theorem dX12_plans_154 : decode cX12_plans 154 = .ok (.if_icmp .gt 56, 3) := by decide +kernel
theorem dX12_plans_157 : decode cX12_plans 157 = .ok (.aload_n 0, 1) := by decide +kernel
theorem dX12_plans_158 : decode cX12_plans 158 = .ok (.getfield 25, 3) := by decide +kernel
theorem dX12_plans_161 : decode cX12_plans 161 = .ok (.iload_n 1, 1) := by decide +kernel
theorem dX12_plans_162 : decode cX12_plans 162 = .ok (.iload 5, 2) := by decide +kernel
theorem dX12_plans_164 : decode cX12_plans 164 = .ok (.iastore, 1) := by decide +kernel
theorem dX12_plans_165 : decode cX12_plans 165 = .ok (.aload_n 0, 1) := by decide +kernel
theorem dX12_plans_166 : decode cX12_plans 166 = .ok (.iload 5, 2) := by decide +kernel
theorem dX12_plans_168 : decode cX12_plans 168 = .ok (.invokevirtual 253, 3) := by decide +kernel
theorem dX12_plans_171 : decode cX12_plans 171 = .ok (.istore 6, 2) := by decide +kernel
theorem dX12_plans_173 : decode cX12_plans 173 = .ok (.aload_n 0, 1) := by decide +kernel
theorem dX12_plans_174 : decode cX12_plans 174 = .ok (.iload_n 1, 1) := by decide +kernel
theorem dX12_plans_175 : decode cX12_plans 175 = .ok (.iconst 1, 1) := by decide +kernel
theorem dX12_plans_176 : decode cX12_plans 176 = .ok (.iadd, 1) := by decide +kernel
theorem dX12_plans_177 : decode cX12_plans 177 = .ok (.iload_n 2, 1) := by decide +kernel
theorem dX12_plans_178 : decode cX12_plans 178 = .ok (.iload_n 3, 1) := by decide +kernel
theorem dX12_plans_179 : decode cX12_plans 179 = .ok (.iload 6, 2) := by decide +kernel
theorem dX12_plans_181 : decode cX12_plans 181 = .ok (.iadd, 1) := by decide +kernel
theorem dX12_plans_182 : decode cX12_plans 182 = .ok (.iload 5, 2) := by decide +kernel
theorem dX12_plans_184 : decode cX12_plans 184 = .ok (.ifCond .ne 8, 3) := by decide +kernel
theorem dX12_plans_187 : decode cX12_plans 187 = .ok (.iload 4, 2) := by decide +kernel
theorem dX12_plans_189 : decode cX12_plans 189 = .ok (.goto 7, 3) := by decide +kernel
theorem dX12_plans_192 : decode cX12_plans 192 = .ok (.iload 4, 2) := by decide +kernel
theorem dX12_plans_194 : decode cX12_plans 194 = .ok (.iconst 1, 1) := by decide +kernel
theorem dX12_plans_195 : decode cX12_plans 195 = .ok (.iadd, 1) := by decide +kernel
theorem dX12_plans_196 : decode cX12_plans 196 = .ok (.invokevirtual 293, 3) := by decide +kernel
theorem dX12_plans_199 : decode cX12_plans 199 = .ok (.aload_n 0, 1) := by decide +kernel
theorem dX12_plans_200 : decode cX12_plans 200 = .ok (.iload_n 1, 1) := by decide +kernel
theorem dX12_plans_201 : decode cX12_plans 201 = .ok (.invokevirtual 260, 3) := by decide +kernel
theorem dX12_plans_204 : decode cX12_plans 204 = .ok (.iinc 5 1, 3) := by decide +kernel
theorem dX12_plans_207 : decode cX12_plans 207 = .ok (.goto (-61), 3) := by decide +kernel
theorem dX12_plans_210 : decode cX12_plans 210 = .ok (.return_, 1) := by decide +kernel
theorem dX12_findsPlans_0 : decode cX12_findsPlans 0 = .ok (.aload_n 0, 1) := by decide +kernel
theorem dX12_findsPlans_1 : decode cX12_findsPlans 1 = .ok (.iconst (-1), 1) := by decide +kernel
theorem dX12_findsPlans_2 : decode cX12_findsPlans 2 = .ok (.putfield 275, 3) := by decide +kernel
theorem dX12_findsPlans_5 : decode cX12_findsPlans 5 = .ok (.aload_n 0, 1) := by decide +kernel
theorem dX12_findsPlans_6 : decode cX12_findsPlans 6 = .ok (.iconst 0, 1) := by decide +kernel
theorem dX12_findsPlans_7 : decode cX12_findsPlans 7 = .ok (.putfield 278, 3) := by decide +kernel
theorem dX12_findsPlans_10 : decode cX12_findsPlans 10 = .ok (.aload_n 0, 1) := by decide +kernel
theorem dX12_findsPlans_11 : decode cX12_findsPlans 11 = .ok (.iconst 0, 1) := by decide +kernel
theorem dX12_findsPlans_12 : decode cX12_findsPlans 12 = .ok (.putfield 281, 3) := by decide +kernel
theorem dX12_findsPlans_15 : decode cX12_findsPlans 15 = .ok (.aload_n 0, 1) := by decide +kernel
theorem dX12_findsPlans_16 : decode cX12_findsPlans 16 = .ok (.iload_n 2, 1) := by decide +kernel
theorem dX12_findsPlans_17 : decode cX12_findsPlans 17 = .ok (.putfield 287, 3) := by decide +kernel
theorem dX12_findsPlans_20 : decode cX12_findsPlans 20 = .ok (.aload_n 0, 1) := by decide +kernel
theorem dX12_findsPlans_21 : decode cX12_findsPlans 21 = .ok (.bipush 9, 2) := by decide +kernel
theorem dX12_findsPlans_23 : decode cX12_findsPlans 23 = .ok (.putfield 290, 3) := by decide +kernel
theorem dX12_findsPlans_26 : decode cX12_findsPlans 26 = .ok (.aload_n 0, 1) := by decide +kernel
theorem dX12_findsPlans_27 : decode cX12_findsPlans 27 = .ok (.iconst 0, 1) := by decide +kernel
theorem dX12_findsPlans_28 : decode cX12_findsPlans 28 = .ok (.putfield 284, 3) := by decide +kernel
theorem dX12_findsPlans_31 : decode cX12_findsPlans 31 = .ok (.aload_n 0, 1) := by decide +kernel
theorem dX12_findsPlans_32 : decode cX12_findsPlans 32 = .ok (.iconst 0, 1) := by decide +kernel
theorem dX12_findsPlans_33 : decode cX12_findsPlans 33 = .ok (.iload_n 1, 1) := by decide +kernel
theorem dX12_findsPlans_34 : decode cX12_findsPlans 34 = .ok (.iconst 0, 1) := by decide +kernel
theorem dX12_findsPlans_35 : decode cX12_findsPlans 35 = .ok (.iconst 0, 1) := by decide +kernel
theorem dX12_findsPlans_36 : decode cX12_findsPlans 36 = .ok (.invokevirtual 293, 3) := by decide +kernel
theorem dX12_findsPlans_39 : decode cX12_findsPlans 39 = .ok (.return_, 1) := by decide +kernel
theorem dX12_isLong_0 : decode cX12_isLong 0 = .ok (.iload_n 0, 1) := by decide +kernel
theorem dX12_isLong_1 : decode cX12_isLong 1 = .ok (.i2l, 1) := by decide +kernel
theorem dX12_isLong_2 : decode cX12_isLong 2 = .ok (.lconst 0, 1) := by decide +kernel
theorem dX12_isLong_3 : decode cX12_isLong 3 = .ok (.ldc2_w 297, 3) := by decide +kernel
theorem dX12_isLong_6 : decode cX12_isLong 6 = .ok (.invokestatic 63, 3) := by decide +kernel
theorem dX12_isLong_9 : decode cX12_isLong 9 = .ok (.ireturn, 1) := by decide +kernel
theorem dX12_best_0 : decode cX12_best 0 = .ok (.iload_n 1, 1) := by decide +kernel
theorem dX12_best_1 : decode cX12_best 1 = .ok (.invokestatic 299, 3) := by decide +kernel
theorem dX12_best_4 : decode cX12_best 4 = .ok (.ifCond .ne 5, 3) := by decide +kernel
theorem dX12_best_7 : decode cX12_best 7 = .ok (.iconst (-1), 1) := by decide +kernel
theorem dX12_best_8 : decode cX12_best 8 = .ok (.ireturn, 1) := by decide +kernel
theorem dX12_best_9 : decode cX12_best 9 = .ok (.aload_n 0, 1) := by decide +kernel
theorem dX12_best_10 : decode cX12_best 10 = .ok (.iload_n 1, 1) := by decide +kernel
theorem dX12_best_11 : decode cX12_best 11 = .ok (.iconst 0, 1) := by decide +kernel
theorem dX12_best_12 : decode cX12_best 12 = .ok (.invokevirtual 302, 3) := by decide +kernel
theorem dX12_best_15 : decode cX12_best 15 = .ok (.aload_n 0, 1) := by decide +kernel
theorem dX12_best_16 : decode cX12_best 16 = .ok (.getfield 275, 3) := by decide +kernel
theorem dX12_best_19 : decode cX12_best 19 = .ok (.ireturn, 1) := by decide +kernel
theorem dX12_ith_0 : decode cX12_ith 0 = .ok (.iload_n 1, 1) := by decide +kernel
theorem dX12_ith_1 : decode cX12_ith 1 = .ok (.invokestatic 299, 3) := by decide +kernel
theorem dX12_ith_4 : decode cX12_ith 4 = .ok (.ifCond .eq 15, 3) := by decide +kernel
theorem dX12_ith_7 : decode cX12_ith 7 = .ok (.iload_n 2, 1) := by decide +kernel
theorem dX12_ith_8 : decode cX12_ith 8 = .ok (.i2l, 1) := by decide +kernel
theorem dX12_ith_9 : decode cX12_ith 9 = .ok (.lconst 0, 1) := by decide +kernel
theorem dX12_ith_10 : decode cX12_ith 10 = .ok (.ldc2_w 306, 3) := by decide +kernel
theorem dX12_ith_13 : decode cX12_ith 13 = .ok (.invokestatic 63, 3) := by decide +kernel
theorem dX12_ith_16 : decode cX12_ith 16 = .ok (.ifCond .ne 5, 3) := by decide +kernel
theorem dX12_ith_19 : decode cX12_ith 19 = .ok (.iconst (-1), 1) := by decide +kernel
theorem dX12_ith_20 : decode cX12_ith 20 = .ok (.ireturn, 1) := by decide +kernel
theorem dX12_ith_21 : decode cX12_ith 21 = .ok (.aload_n 0, 1) := by decide +kernel
theorem dX12_ith_22 : decode cX12_ith 22 = .ok (.iload_n 1, 1) := by decide +kernel
theorem dX12_ith_23 : decode cX12_ith 23 = .ok (.iconst 0, 1) := by decide +kernel
theorem dX12_ith_24 : decode cX12_ith 24 = .ok (.invokevirtual 302, 3) := by decide +kernel
theorem dX12_ith_27 : decode cX12_ith 27 = .ok (.iload_n 2, 1) := by decide +kernel
theorem dX12_ith_28 : decode cX12_ith 28 = .ok (.aload_n 0, 1) := by decide +kernel
theorem dX12_ith_29 : decode cX12_ith 29 = .ok (.getfield 281, 3) := by decide +kernel
theorem dX12_ith_32 : decode cX12_ith 32 = .ok (.if_icmp .ge 12, 3) := by decide +kernel
theorem dX12_ith_35 : decode cX12_ith 35 = .ok (.aload_n 0, 1) := by decide +kernel
theorem dX12_ith_36 : decode cX12_ith 36 = .ok (.getfield 28, 3) := by decide +kernel
theorem dX12_ith_39 : decode cX12_ith 39 = .ok (.iload_n 2, 1) := by decide +kernel
theorem dX12_ith_40 : decode cX12_ith 40 = .ok (.iaload, 1) := by decide +kernel
theorem dX12_ith_41 : decode cX12_ith 41 = .ok (.goto 5, 3) := by decide +kernel
theorem dX12_ith_44 : decode cX12_ith 44 = .ok (.bipush (-3), 2) := by decide +kernel
theorem dX12_ith_46 : decode cX12_ith 46 = .ok (.ireturn, 1) := by decide +kernel
theorem dX12_ways_0 : decode cX12_ways 0 = .ok (.iload_n 1, 1) := by decide +kernel
theorem dX12_ways_1 : decode cX12_ways 1 = .ok (.invokestatic 299, 3) := by decide +kernel
theorem dX12_ways_4 : decode cX12_ways 4 = .ok (.ifCond .ne 5, 3) := by decide +kernel
theorem dX12_ways_7 : decode cX12_ways 7 = .ok (.iconst (-1), 1) := by decide +kernel
theorem dX12_ways_8 : decode cX12_ways 8 = .ok (.ireturn, 1) := by decide +kernel
theorem dX12_ways_9 : decode cX12_ways 9 = .ok (.aload_n 0, 1) := by decide +kernel
theorem dX12_ways_10 : decode cX12_ways 10 = .ok (.iload_n 1, 1) := by decide +kernel
theorem dX12_ways_11 : decode cX12_ways 11 = .ok (.iconst 0, 1) := by decide +kernel
theorem dX12_ways_12 : decode cX12_ways 12 = .ok (.invokevirtual 302, 3) := by decide +kernel
theorem dX12_ways_15 : decode cX12_ways 15 = .ok (.aload_n 0, 1) := by decide +kernel
theorem dX12_ways_16 : decode cX12_ways 16 = .ok (.getfield 278, 3) := by decide +kernel
theorem dX12_ways_19 : decode cX12_ways 19 = .ok (.ireturn, 1) := by decide +kernel
theorem dX12_charter_0 : decode cX12_charter 0 = .ok (.iload_n 1, 1) := by decide +kernel
theorem dX12_charter_1 : decode cX12_charter 1 = .ok (.invokestatic 299, 3) := by decide +kernel
theorem dX12_charter_4 : decode cX12_charter 4 = .ok (.ifCond .eq 11, 3) := by decide +kernel
theorem dX12_charter_7 : decode cX12_charter 7 = .ok (.aload_n 0, 1) := by decide +kernel
theorem dX12_charter_8 : decode cX12_charter 8 = .ok (.iload_n 2, 1) := by decide +kernel
theorem dX12_charter_9 : decode cX12_charter 9 = .ok (.invokevirtual 308, 3) := by decide +kernel
theorem dX12_charter_12 : decode cX12_charter 12 = .ok (.ifCond .ne 5, 3) := by decide +kernel
theorem dX12_charter_15 : decode cX12_charter 15 = .ok (.iconst (-1), 1) := by decide +kernel
theorem dX12_charter_16 : decode cX12_charter 16 = .ok (.ireturn, 1) := by decide +kernel
theorem dX12_charter_17 : decode cX12_charter 17 = .ok (.aload_n 0, 1) := by decide +kernel
theorem dX12_charter_18 : decode cX12_charter 18 = .ok (.iload_n 1, 1) := by decide +kernel
theorem dX12_charter_19 : decode cX12_charter 19 = .ok (.iload_n 2, 1) := by decide +kernel
theorem dX12_charter_20 : decode cX12_charter 20 = .ok (.invokevirtual 302, 3) := by decide +kernel
theorem dX12_charter_23 : decode cX12_charter 23 = .ok (.aload_n 0, 1) := by decide +kernel
theorem dX12_charter_24 : decode cX12_charter 24 = .ok (.getfield 290, 3) := by decide +kernel
theorem dX12_charter_27 : decode cX12_charter 27 = .ok (.bipush 9, 2) := by decide +kernel
theorem dX12_charter_29 : decode cX12_charter 29 = .ok (.if_icmp .ge 10, 3) := by decide +kernel
theorem dX12_charter_32 : decode cX12_charter 32 = .ok (.aload_n 0, 1) := by decide +kernel
theorem dX12_charter_33 : decode cX12_charter 33 = .ok (.getfield 290, 3) := by decide +kernel
theorem dX12_charter_36 : decode cX12_charter 36 = .ok (.goto 5, 3) := by decide +kernel
theorem dX12_charter_39 : decode cX12_charter 39 = .ok (.bipush (-3), 2) := by decide +kernel
theorem dX12_charter_41 : decode cX12_charter 41 = .ok (.ireturn, 1) := by decide +kernel
theorem dX12_bars_0 : decode cX12_bars 0 = .ok (.iload_n 1, 1) := by decide +kernel
theorem dX12_bars_1 : decode cX12_bars 1 = .ok (.invokestatic 299, 3) := by decide +kernel
theorem dX12_bars_4 : decode cX12_bars 4 = .ok (.ifCond .eq 11, 3) := by decide +kernel
theorem dX12_bars_7 : decode cX12_bars 7 = .ok (.aload_n 0, 1) := by decide +kernel
theorem dX12_bars_8 : decode cX12_bars 8 = .ok (.iload_n 2, 1) := by decide +kernel
theorem dX12_bars_9 : decode cX12_bars 9 = .ok (.invokevirtual 308, 3) := by decide +kernel
theorem dX12_bars_12 : decode cX12_bars 12 = .ok (.ifCond .ne 5, 3) := by decide +kernel
theorem dX12_bars_15 : decode cX12_bars 15 = .ok (.iconst (-1), 1) := by decide +kernel
theorem dX12_bars_16 : decode cX12_bars 16 = .ok (.ireturn, 1) := by decide +kernel
theorem dX12_bars_17 : decode cX12_bars 17 = .ok (.aload_n 0, 1) := by decide +kernel
theorem dX12_bars_18 : decode cX12_bars 18 = .ok (.iload_n 1, 1) := by decide +kernel
theorem dX12_bars_19 : decode cX12_bars 19 = .ok (.iload_n 2, 1) := by decide +kernel
theorem dX12_bars_20 : decode cX12_bars 20 = .ok (.invokevirtual 302, 3) := by decide +kernel
theorem dX12_bars_23 : decode cX12_bars 23 = .ok (.iconst 0, 1) := by decide +kernel
theorem dX12_bars_24 : decode cX12_bars 24 = .ok (.istore_n 3, 1) := by decide +kernel
theorem dX12_bars_25 : decode cX12_bars 25 = .ok (.iload_n 3, 1) := by decide +kernel
theorem dX12_bars_26 : decode cX12_bars 26 = .ok (.aload_n 0, 1) := by decide +kernel
theorem dX12_bars_27 : decode cX12_bars 27 = .ok (.getfield 7, 3) := by decide +kernel
theorem dX12_bars_30 : decode cX12_bars 30 = .ok (.iconst 0, 1) := by decide +kernel
theorem dX12_bars_31 : decode cX12_bars 31 = .ok (.iaload, 1) := by decide +kernel
theorem dX12_bars_32 : decode cX12_bars 32 = .ok (.if_icmp .ge 27, 3) := by decide +kernel
theorem dX12_bars_35 : decode cX12_bars 35 = .ok (.iload_n 2, 1) := by decide +kernel
theorem dX12_bars_36 : decode cX12_bars 36 = .ok (.aload_n 0, 1) := by decide +kernel
theorem dX12_bars_37 : decode cX12_bars 37 = .ok (.getfield 284, 3) := by decide +kernel
theorem dX12_bars_40 : decode cX12_bars 40 = .ok (.iconst (-1), 1) := by decide +kernel
theorem dX12_bars_41 : decode cX12_bars 41 = .ok (.ixor, 1) := by decide +kernel
theorem dX12_bars_42 : decode cX12_bars 42 = .ok (.iand, 1) := by decide +kernel
theorem dX12_bars_43 : decode cX12_bars 43 = .ok (.iload_n 3, 1) := by decide +kernel
theorem dX12_bars_44 : decode cX12_bars 44 = .ok (.ishr, 1) := by decide +kernel
theorem dX12_bars_45 : decode cX12_bars 45 = .ok (.iconst 1, 1) := by decide +kernel
theorem dX12_bars_46 : decode cX12_bars 46 = .ok (.iand, 1) := by decide +kernel
theorem dX12_bars_47 : decode cX12_bars 47 = .ok (.iconst 1, 1) := by decide +kernel
theorem dX12_bars_48 : decode cX12_bars 48 = .ok (.if_icmp .ne 5, 3) := by decide +kernel
theorem dX12_bars_51 : decode cX12_bars 51 = .ok (.iload_n 3, 1) := by decide +kernel
theorem dX12_bars_52 : decode cX12_bars 52 = .ok (.ireturn, 1) := by decide +kernel
theorem dX12_bars_53 : decode cX12_bars 53 = .ok (.iinc 3 1, 3) := by decide +kernel
theorem dX12_bars_56 : decode cX12_bars 56 = .ok (.goto (-31), 3) := by decide +kernel
theorem dX12_bars_59 : decode cX12_bars 59 = .ok (.bipush (-3), 2) := by decide +kernel
theorem dX12_bars_61 : decode cX12_bars 61 = .ok (.ireturn, 1) := by decide +kernel
theorem dX12_valueFrom_0 : decode cX12_valueFrom 0 = .ok (.iload_n 1, 1) := by decide +kernel
theorem dX12_valueFrom_1 : decode cX12_valueFrom 1 = .ok (.iload_n 2, 1) := by decide +kernel
theorem dX12_valueFrom_2 : decode cX12_valueFrom 2 = .ok (.if_icmp .eq 10, 3) := by decide +kernel
theorem dX12_valueFrom_5 : decode cX12_valueFrom 5 = .ok (.aload_n 0, 1) := by decide +kernel
theorem dX12_valueFrom_6 : decode cX12_valueFrom 6 = .ok (.invokevirtual 139, 3) := by decide +kernel
theorem dX12_valueFrom_9 : decode cX12_valueFrom 9 = .ok (.ifCond .eq 5, 3) := by decide +kernel
theorem dX12_valueFrom_12 : decode cX12_valueFrom 12 = .ok (.iconst 0, 1) := by decide +kernel
theorem dX12_valueFrom_13 : decode cX12_valueFrom 13 = .ok (.ireturn, 1) := by decide +kernel
theorem dX12_valueFrom_14 : decode cX12_valueFrom 14 = .ok (.aload_n 0, 1) := by decide +kernel
theorem dX12_valueFrom_15 : decode cX12_valueFrom 15 = .ok (.iload_n 1, 1) := by decide +kernel
theorem dX12_valueFrom_16 : decode cX12_valueFrom 16 = .ok (.invokevirtual 256, 3) := by decide +kernel
theorem dX12_valueFrom_19 : decode cX12_valueFrom 19 = .ok (.iconst 0, 1) := by decide +kernel
theorem dX12_valueFrom_20 : decode cX12_valueFrom 20 = .ok (.istore_n 3, 1) := by decide +kernel
theorem dX12_valueFrom_21 : decode cX12_valueFrom 21 = .ok (.iconst (-1), 1) := by decide +kernel
theorem dX12_valueFrom_22 : decode cX12_valueFrom 22 = .ok (.istore 4, 2) := by decide +kernel
theorem dX12_valueFrom_24 : decode cX12_valueFrom 24 = .ok (.iconst 0, 1) := by decide +kernel
theorem dX12_valueFrom_25 : decode cX12_valueFrom 25 = .ok (.istore 5, 2) := by decide +kernel
theorem dX12_valueFrom_27 : decode cX12_valueFrom 27 = .ok (.iload 5, 2) := by decide +kernel
theorem dX12_valueFrom_29 : decode cX12_valueFrom 29 = .ok (.aload_n 0, 1) := by decide +kernel
theorem dX12_valueFrom_30 : decode cX12_valueFrom 30 = .ok (.getfield 7, 3) := by decide +kernel
theorem dX12_valueFrom_33 : decode cX12_valueFrom 33 = .ok (.iconst 0, 1) := by decide +kernel
theorem dX12_valueFrom_34 : decode cX12_valueFrom 34 = .ok (.iaload, 1) := by decide +kernel
theorem dX12_valueFrom_35 : decode cX12_valueFrom 35 = .ok (.if_icmp .gt 68, 3) := by decide +kernel
theorem dX12_valueFrom_38 : decode cX12_valueFrom 38 = .ok (.aload_n 0, 1) := by decide +kernel
theorem dX12_valueFrom_39 : decode cX12_valueFrom 39 = .ok (.iload 5, 2) := by decide +kernel
theorem dX12_valueFrom_41 : decode cX12_valueFrom 41 = .ok (.invokevirtual 253, 3) := by decide +kernel
theorem dX12_valueFrom_44 : decode cX12_valueFrom 44 = .ok (.istore 6, 2) := by decide +kernel
theorem dX12_valueFrom_46 : decode cX12_valueFrom 46 = .ok (.iload 6, 2) := by decide +kernel
theorem dX12_valueFrom_48 : decode cX12_valueFrom 48 = .ok (.aload_n 0, 1) := by decide +kernel
theorem dX12_valueFrom_49 : decode cX12_valueFrom 49 = .ok (.iload_n 1, 1) := by decide +kernel
theorem dX12_valueFrom_50 : decode cX12_valueFrom 50 = .ok (.iconst 1, 1) := by decide +kernel
theorem dX12_valueFrom_51 : decode cX12_valueFrom 51 = .ok (.iadd, 1) := by decide +kernel
theorem dX12_valueFrom_52 : decode cX12_valueFrom 52 = .ok (.iload_n 2, 1) := by decide +kernel
theorem dX12_valueFrom_53 : decode cX12_valueFrom 53 = .ok (.invokevirtual 311, 3) := by decide +kernel
theorem dX12_valueFrom_56 : decode cX12_valueFrom 56 = .ok (.iadd, 1) := by decide +kernel
theorem dX12_valueFrom_57 : decode cX12_valueFrom 57 = .ok (.istore 7, 2) := by decide +kernel
theorem dX12_valueFrom_59 : decode cX12_valueFrom 59 = .ok (.aload_n 0, 1) := by decide +kernel
theorem dX12_valueFrom_60 : decode cX12_valueFrom 60 = .ok (.iload_n 1, 1) := by decide +kernel
theorem dX12_valueFrom_61 : decode cX12_valueFrom 61 = .ok (.invokevirtual 260, 3) := by decide +kernel
theorem dX12_valueFrom_64 : decode cX12_valueFrom 64 = .ok (.iload 4, 2) := by decide +kernel
theorem dX12_valueFrom_66 : decode cX12_valueFrom 66 = .ok (.ifCond .lt 24, 3) := by decide +kernel
theorem dX12_valueFrom_69 : decode cX12_valueFrom 69 = .ok (.iload_n 1, 1) := by decide +kernel
theorem dX12_valueFrom_70 : decode cX12_valueFrom 70 = .ok (.iconst 2, 1) := by decide +kernel
theorem dX12_valueFrom_71 : decode cX12_valueFrom 71 = .ok (.irem, 1) := by decide +kernel
theorem dX12_valueFrom_72 : decode cX12_valueFrom 72 = .ok (.ifCond .ne 12, 3) := by decide +kernel
theorem dX12_valueFrom_75 : decode cX12_valueFrom 75 = .ok (.iload 7, 2) := by decide +kernel
theorem dX12_valueFrom_77 : decode cX12_valueFrom 77 = .ok (.iload_n 3, 1) := by decide +kernel
theorem dX12_valueFrom_78 : decode cX12_valueFrom 78 = .ok (.if_icmp .le 19, 3) := by decide +kernel
theorem dX12_valueFrom_81 : decode cX12_valueFrom 81 = .ok (.goto 9, 3) := by decide +kernel
theorem dX12_valueFrom_84 : decode cX12_valueFrom 84 = .ok (.iload 7, 2) := by decide +kernel
theorem dX12_valueFrom_86 : decode cX12_valueFrom 86 = .ok (.iload_n 3, 1) := by decide +kernel
theorem dX12_valueFrom_87 : decode cX12_valueFrom 87 = .ok (.if_icmp .ge 10, 3) := by decide +kernel
theorem dX12_valueFrom_90 : decode cX12_valueFrom 90 = .ok (.iload 7, 2) := by decide +kernel
theorem dX12_valueFrom_92 : decode cX12_valueFrom 92 = .ok (.istore_n 3, 1) := by decide +kernel
theorem dX12_valueFrom_93 : decode cX12_valueFrom 93 = .ok (.iload 5, 2) := by decide +kernel
theorem dX12_valueFrom_95 : decode cX12_valueFrom 95 = .ok (.istore 4, 2) := by decide +kernel
theorem dX12_valueFrom_97 : decode cX12_valueFrom 97 = .ok (.iinc 5 1, 3) := by decide +kernel
theorem dX12_valueFrom_100 : decode cX12_valueFrom 100 = .ok (.goto (-73), 3) := by decide +kernel
theorem dX12_valueFrom_103 : decode cX12_valueFrom 103 = .ok (.aload_n 0, 1) := by decide +kernel
theorem dX12_valueFrom_104 : decode cX12_valueFrom 104 = .ok (.iload 4, 2) := by decide +kernel
theorem dX12_valueFrom_106 : decode cX12_valueFrom 106 = .ok (.putfield 314, 3) := by decide +kernel
theorem dX12_valueFrom_109 : decode cX12_valueFrom 109 = .ok (.iload_n 3, 1) := by decide +kernel
theorem dX12_valueFrom_110 : decode cX12_valueFrom 110 = .ok (.ireturn, 1) := by decide +kernel
theorem dX12_game_0 : decode cX12_game 0 = .ok (.iload_n 1, 1) := by decide +kernel
theorem dX12_game_1 : decode cX12_game 1 = .ok (.i2l, 1) := by decide +kernel
theorem dX12_game_2 : decode cX12_game 2 = .ok (.lconst 1, 1) := by decide +kernel
theorem dX12_game_3 : decode cX12_game 3 = .ok (.ldc2_w 297, 3) := by decide +kernel
theorem dX12_game_6 : decode cX12_game 6 = .ok (.invokestatic 63, 3) := by decide +kernel
theorem dX12_game_9 : decode cX12_game 9 = .ok (.ifCond .eq 12, 3) := by decide +kernel
theorem dX12_game_12 : decode cX12_game 12 = .ok (.aload_n 0, 1) := by decide +kernel
theorem dX12_game_13 : decode cX12_game 13 = .ok (.iconst 0, 1) := by decide +kernel
theorem dX12_game_14 : decode cX12_game 14 = .ok (.iload_n 1, 1) := by decide +kernel
theorem dX12_game_15 : decode cX12_game 15 = .ok (.invokevirtual 311, 3) := by decide +kernel
theorem dX12_game_18 : decode cX12_game 18 = .ok (.goto 4, 3) := by decide +kernel
theorem dX12_game_21 : decode cX12_game 21 = .ok (.iconst (-1), 1) := by decide +kernel
theorem dX12_game_22 : decode cX12_game 22 = .ok (.ireturn, 1) := by decide +kernel
theorem dX12_play_0 : decode cX12_play 0 = .ok (.iload_n 1, 1) := by decide +kernel
theorem dX12_play_1 : decode cX12_play 1 = .ok (.i2l, 1) := by decide +kernel
theorem dX12_play_2 : decode cX12_play 2 = .ok (.lconst 1, 1) := by decide +kernel
theorem dX12_play_3 : decode cX12_play 3 = .ok (.ldc2_w 297, 3) := by decide +kernel
theorem dX12_play_6 : decode cX12_play 6 = .ok (.invokestatic 63, 3) := by decide +kernel
theorem dX12_play_9 : decode cX12_play 9 = .ok (.ifCond .ne 5, 3) := by decide +kernel
theorem dX12_play_12 : decode cX12_play 12 = .ok (.iconst (-1), 1) := by decide +kernel
theorem dX12_play_13 : decode cX12_play 13 = .ok (.ireturn, 1) := by decide +kernel
theorem dX12_play_14 : decode cX12_play 14 = .ok (.aload_n 0, 1) := by decide +kernel
theorem dX12_play_15 : decode cX12_play 15 = .ok (.invokevirtual 139, 3) := by decide +kernel
theorem dX12_play_18 : decode cX12_play 18 = .ok (.ifCond .eq 6, 3) := by decide +kernel
theorem dX12_play_21 : decode cX12_play 21 = .ok (.bipush (-3), 2) := by decide +kernel
theorem dX12_play_23 : decode cX12_play 23 = .ok (.ireturn, 1) := by decide +kernel
theorem dX12_play_24 : decode cX12_play 24 = .ok (.aload_n 0, 1) := by decide +kernel
theorem dX12_play_25 : decode cX12_play 25 = .ok (.iconst 0, 1) := by decide +kernel
theorem dX12_play_26 : decode cX12_play 26 = .ok (.iload_n 1, 1) := by decide +kernel
theorem dX12_play_27 : decode cX12_play 27 = .ok (.invokevirtual 311, 3) := by decide +kernel
theorem dX12_play_30 : decode cX12_play 30 = .ok (.istore_n 2, 1) := by decide +kernel
theorem dX12_play_31 : decode cX12_play 31 = .ok (.aload_n 0, 1) := by decide +kernel
theorem dX12_play_32 : decode cX12_play 32 = .ok (.getfield 314, 3) := by decide +kernel
theorem dX12_play_35 : decode cX12_play 35 = .ok (.ireturn, 1) := by decide +kernel
theorem dX12_report_0 : decode cX12_report 0 = .ok (.iload_n 1, 1) := by decide +kernel
theorem dX12_report_1 : decode cX12_report 1 = .ok (.i2l, 1) := by decide +kernel
theorem dX12_report_2 : decode cX12_report 2 = .ok (.lconst 0, 1) := by decide +kernel
theorem dX12_report_3 : decode cX12_report 3 = .ok (.ldc2_w 128, 3) := by decide +kernel
theorem dX12_report_6 : decode cX12_report 6 = .ok (.invokestatic 63, 3) := by decide +kernel
theorem dX12_report_9 : decode cX12_report 9 = .ok (.ifCond .eq 59, 3) := by decide +kernel
theorem dX12_report_12 : decode cX12_report 12 = .ok (.iload_n 2, 1) := by decide +kernel
theorem dX12_report_13 : decode cX12_report 13 = .ok (.i2l, 1) := by decide +kernel
theorem dX12_report_14 : decode cX12_report 14 = .ok (.lconst 0, 1) := by decide +kernel
theorem dX12_report_15 : decode cX12_report 15 = .ok (.lconst 1, 1) := by decide +kernel
theorem dX12_report_16 : decode cX12_report 16 = .ok (.invokestatic 63, 3) := by decide +kernel
theorem dX12_report_19 : decode cX12_report 19 = .ok (.ifCond .eq 49, 3) := by decide +kernel
theorem dX12_report_22 : decode cX12_report 22 = .ok (.iload_n 3, 1) := by decide +kernel
theorem dX12_report_23 : decode cX12_report 23 = .ok (.i2l, 1) := by decide +kernel
theorem dX12_report_24 : decode cX12_report 24 = .ok (.lconst 0, 1) := by decide +kernel
theorem dX12_report_25 : decode cX12_report 25 = .ok (.iload_n 2, 1) := by decide +kernel
theorem dX12_report_26 : decode cX12_report 26 = .ok (.ifCond .ne 9, 3) := by decide +kernel
theorem dX12_report_29 : decode cX12_report 29 = .ok (.ldc2_w 132, 3) := by decide +kernel
theorem dX12_report_32 : decode cX12_report 32 = .ok (.goto 6, 3) := by decide +kernel
theorem dX12_report_35 : decode cX12_report 35 = .ok (.ldc2_w 69, 3) := by decide +kernel
theorem dX12_report_38 : decode cX12_report 38 = .ok (.invokestatic 63, 3) := by decide +kernel
theorem dX12_report_41 : decode cX12_report 41 = .ok (.ifCond .eq 27, 3) := by decide +kernel
theorem dX12_report_44 : decode cX12_report 44 = .ok (.iload 4, 2) := by decide +kernel
theorem dX12_report_46 : decode cX12_report 46 = .ok (.i2l, 1) := by decide +kernel
theorem dX12_report_47 : decode cX12_report 47 = .ok (.iload_n 3, 1) := by decide +kernel
theorem dX12_report_48 : decode cX12_report 48 = .ok (.i2l, 1) := by decide +kernel
theorem dX12_report_49 : decode cX12_report 49 = .ok (.iload_n 2, 1) := by decide +kernel
theorem dX12_report_50 : decode cX12_report 50 = .ok (.ifCond .ne 9, 3) := by decide +kernel
theorem dX12_report_53 : decode cX12_report 53 = .ok (.ldc2_w 132, 3) := by decide +kernel
theorem dX12_report_56 : decode cX12_report 56 = .ok (.goto 6, 3) := by decide +kernel
theorem dX12_report_59 : decode cX12_report 59 = .ok (.ldc2_w 69, 3) := by decide +kernel
theorem dX12_report_62 : decode cX12_report 62 = .ok (.invokestatic 63, 3) := by decide +kernel
theorem dX12_report_65 : decode cX12_report 65 = .ok (.ifCond .ne 5, 3) := by decide +kernel
theorem dX12_report_68 : decode cX12_report 68 = .ok (.iconst (-1), 1) := by decide +kernel
theorem dX12_report_69 : decode cX12_report 69 = .ok (.ireturn, 1) := by decide +kernel
theorem dX12_report_70 : decode cX12_report 70 = .ok (.aload_n 0, 1) := by decide +kernel
theorem dX12_report_71 : decode cX12_report 71 = .ok (.getfield 7, 3) := by decide +kernel
theorem dX12_report_74 : decode cX12_report 74 = .ok (.bipush 6, 2) := by decide +kernel
theorem dX12_report_76 : decode cX12_report 76 = .ok (.iaload, 1) := by decide +kernel
theorem dX12_report_77 : decode cX12_report 77 = .ok (.bipush 6, 2) := by decide +kernel
theorem dX12_report_79 : decode cX12_report 79 = .ok (.if_icmp .ne 6, 3) := by decide +kernel
theorem dX12_report_82 : decode cX12_report 82 = .ok (.bipush (-2), 2) := by decide +kernel
theorem dX12_report_84 : decode cX12_report 84 = .ok (.ireturn, 1) := by decide +kernel
theorem dX12_report_85 : decode cX12_report 85 = .ok (.bipush 106, 2) := by decide +kernel
