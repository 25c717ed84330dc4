theorem dX0_init_0 : decode cX0_init 0 = .ok (.aload_n 0, 1) := by decide +kernel
theorem dX0_init_1 : decode cX0_init 1 = .ok (.invokespecial 1, 3) := by decide +kernel
theorem dX0_init_4 : decode cX0_init 4 = .ok (.return_, 1) := by decide +kernel
theorem dX0_cheers_0 : decode cX0_cheers 0 = .ok (.iconst 2, 1) := by decide +kernel
theorem dX0_cheers_1 : decode cX0_cheers 1 = .ok (.aload_n 0, 1) := by decide +kernel
theorem dX0_cheers_2 : decode cX0_cheers 2 = .ok (.iload_n 1, 1) := by decide +kernel
theorem dX0_cheers_3 : decode cX0_cheers 3 = .ok (.iload_n 2, 1) := by decide +kernel
theorem dX0_cheers_4 : decode cX0_cheers 4 = .ok (.invokespecial 7, 3) := by decide +kernel
theorem dX0_cheers_7 : decode cX0_cheers 7 = .ok (.imul, 1) := by decide +kernel
theorem dX0_cheers_8 : decode cX0_cheers 8 = .ok (.ireturn, 1) := by decide +kernel
theorem dX0_pays_0 : decode cX0_pays 0 = .ok (.aload_n 0, 1) := by decide +kernel
theorem dX0_pays_1 : decode cX0_pays 1 = .ok (.iload_n 1, 1) := by decide +kernel
theorem dX0_pays_2 : decode cX0_pays 2 = .ok (.invokespecial 11, 3) := by decide +kernel
theorem dX0_pays_5 : decode cX0_pays 5 = .ok (.iconst 2, 1) := by decide +kernel
theorem dX0_pays_6 : decode cX0_pays 6 = .ok (.iadd, 1) := by decide +kernel
theorem dX0_pays_7 : decode cX0_pays 7 = .ok (.ireturn, 1) := by decide +kernel
theorem dX0_knocks_0 : decode cX0_knocks 0 = .ok (.aload_n 1, 1) := by decide +kernel
theorem dX0_knocks_1 : decode cX0_knocks 1 = .ok (.bipush 20, 2) := by decide +kernel
theorem dX0_knocks_3 : decode cX0_knocks 3 = .ok (.invokevirtual 15, 3) := by decide +kernel
theorem dX0_knocks_6 : decode cX0_knocks 6 = .ok (.aload_n 0, 1) := by decide +kernel
theorem dX0_knocks_7 : decode cX0_knocks 7 = .ok (.aload_n 1, 1) := by decide +kernel
theorem dX0_knocks_8 : decode cX0_knocks 8 = .ok (.iload_n 2, 1) := by decide +kernel
theorem dX0_knocks_9 : decode cX0_knocks 9 = .ok (.invokespecial 21, 3) := by decide +kernel
theorem dX0_knocks_12 : decode cX0_knocks 12 = .ok (.iconst 3, 1) := by decide +kernel
theorem dX0_knocks_13 : decode cX0_knocks 13 = .ok (.isub, 1) := by decide +kernel
theorem dX0_knocks_14 : decode cX0_knocks 14 = .ok (.ireturn, 1) := by decide +kernel
theorem dX1_init_0 : decode cX1_init 0 = .ok (.aload_n 0, 1) := by decide +kernel
theorem dX1_init_1 : decode cX1_init 1 = .ok (.invokespecial 1, 3) := by decide +kernel
theorem dX1_init_4 : decode cX1_init 4 = .ok (.return_, 1) := by decide +kernel
theorem dX1_cheers_0 : decode cX1_cheers 0 = .ok (.iconst 2, 1) := by decide +kernel
theorem dX1_cheers_1 : decode cX1_cheers 1 = .ok (.aload_n 0, 1) := by decide +kernel
theorem dX1_cheers_2 : decode cX1_cheers 2 = .ok (.iload_n 1, 1) := by decide +kernel
theorem dX1_cheers_3 : decode cX1_cheers 3 = .ok (.iload_n 2, 1) := by decide +kernel
theorem dX1_cheers_4 : decode cX1_cheers 4 = .ok (.invokespecial 7, 3) := by decide +kernel
theorem dX1_cheers_7 : decode cX1_cheers 7 = .ok (.iconst 1, 1) := by decide +kernel
theorem dX1_cheers_8 : decode cX1_cheers 8 = .ok (.iadd, 1) := by decide +kernel
theorem dX1_cheers_9 : decode cX1_cheers 9 = .ok (.invokestatic 11, 3) := by decide +kernel
theorem dX1_cheers_12 : decode cX1_cheers 12 = .ok (.ireturn, 1) := by decide +kernel
theorem dX1_pays_0 : decode cX1_pays 0 = .ok (.aload_n 0, 1) := by decide +kernel
theorem dX1_pays_1 : decode cX1_pays 1 = .ok (.iload_n 1, 1) := by decide +kernel
theorem dX1_pays_2 : decode cX1_pays 2 = .ok (.invokespecial 16, 3) := by decide +kernel
theorem dX1_pays_5 : decode cX1_pays 5 = .ok (.iconst 1, 1) := by decide +kernel
theorem dX1_pays_6 : decode cX1_pays 6 = .ok (.isub, 1) := by decide +kernel
theorem dX1_pays_7 : decode cX1_pays 7 = .ok (.ireturn, 1) := by decide +kernel
theorem dX1_thanks_0 : decode cX1_thanks 0 = .ok (.aload_n 1, 1) := by decide +kernel
theorem dX1_thanks_1 : decode cX1_thanks 1 = .ok (.bipush 40, 2) := by decide +kernel
theorem dX1_thanks_3 : decode cX1_thanks 3 = .ok (.invokevirtual 20, 3) := by decide +kernel
theorem dX1_thanks_6 : decode cX1_thanks 6 = .ok (.iconst 1, 1) := by decide +kernel
theorem dX1_thanks_7 : decode cX1_thanks 7 = .ok (.aload_n 0, 1) := by decide +kernel
theorem dX1_thanks_8 : decode cX1_thanks 8 = .ok (.aload_n 1, 1) := by decide +kernel
theorem dX1_thanks_9 : decode cX1_thanks 9 = .ok (.iload_n 2, 1) := by decide +kernel
theorem dX1_thanks_10 : decode cX1_thanks 10 = .ok (.invokespecial 26, 3) := by decide +kernel
theorem dX1_thanks_13 : decode cX1_thanks 13 = .ok (.isub, 1) := by decide +kernel
theorem dX1_thanks_14 : decode cX1_thanks 14 = .ok (.ireturn, 1) := by decide +kernel
theorem dX2_init_0 : decode cX2_init 0 = .ok (.aload_n 0, 1) := by decide +kernel
theorem dX2_init_1 : decode cX2_init 1 = .ok (.invokespecial 1, 3) := by decide +kernel
theorem dX2_init_4 : decode cX2_init 4 = .ok (.return_, 1) := by decide +kernel
theorem dX2_cheers_0 : decode cX2_cheers 0 = .ok (.iload_n 2, 1) := by decide +kernel
theorem dX2_cheers_1 : decode cX2_cheers 1 = .ok (.iconst 3, 1) := by decide +kernel
theorem dX2_cheers_2 : decode cX2_cheers 2 = .ok (.irem, 1) := by decide +kernel
theorem dX2_cheers_3 : decode cX2_cheers 3 = .ok (.iconst 1, 1) := by decide +kernel
theorem dX2_cheers_4 : decode cX2_cheers 4 = .ok (.if_icmp .ne 7, 3) := by decide +kernel
theorem dX2_cheers_7 : decode cX2_cheers 7 = .ok (.iconst 0, 1) := by decide +kernel
theorem dX2_cheers_8 : decode cX2_cheers 8 = .ok (.goto 9, 3) := by decide +kernel
theorem dX2_cheers_11 : decode cX2_cheers 11 = .ok (.aload_n 0, 1) := by decide +kernel
theorem dX2_cheers_12 : decode cX2_cheers 12 = .ok (.iload_n 1, 1) := by decide +kernel
theorem dX2_cheers_13 : decode cX2_cheers 13 = .ok (.iload_n 2, 1) := by decide +kernel
theorem dX2_cheers_14 : decode cX2_cheers 14 = .ok (.invokespecial 7, 3) := by decide +kernel
theorem dX2_cheers_17 : decode cX2_cheers 17 = .ok (.ireturn, 1) := by decide +kernel
theorem dX2_pays_0 : decode cX2_pays 0 = .ok (.aload_n 0, 1) := by decide +kernel
theorem dX2_pays_1 : decode cX2_pays 1 = .ok (.iload_n 1, 1) := by decide +kernel
theorem dX2_pays_2 : decode cX2_pays 2 = .ok (.invokespecial 11, 3) := by decide +kernel
theorem dX2_pays_5 : decode cX2_pays 5 = .ok (.iconst 2, 1) := by decide +kernel
theorem dX2_pays_6 : decode cX2_pays 6 = .ok (.idiv, 1) := by decide +kernel
theorem dX2_pays_7 : decode cX2_pays 7 = .ok (.ireturn, 1) := by decide +kernel
theorem dX2_tells_0 : decode cX2_tells 0 = .ok (.aload_n 1, 1) := by decide +kernel
theorem dX2_tells_1 : decode cX2_tells 1 = .ok (.bipush 60, 2) := by decide +kernel
theorem dX2_tells_3 : decode cX2_tells 3 = .ok (.invokevirtual 15, 3) := by decide +kernel
theorem dX2_tells_6 : decode cX2_tells 6 = .ok (.aload_n 0, 1) := by decide +kernel
theorem dX2_tells_7 : decode cX2_tells 7 = .ok (.aload_n 1, 1) := by decide +kernel
theorem dX2_tells_8 : decode cX2_tells 8 = .ok (.iload_n 2, 1) := by decide +kernel
theorem dX2_tells_9 : decode cX2_tells 9 = .ok (.invokespecial 21, 3) := by decide +kernel
theorem dX2_tells_12 : decode cX2_tells 12 = .ok (.aload_n 1, 1) := by decide +kernel
theorem dX2_tells_13 : decode cX2_tells 13 = .ok (.getfield 25, 3) := by decide +kernel
theorem dX2_tells_16 : decode cX2_tells 16 = .ok (.imul, 1) := by decide +kernel
theorem dX2_tells_17 : decode cX2_tells 17 = .ok (.ireturn, 1) := by decide +kernel
theorem dX2_thanks_0 : decode cX2_thanks 0 = .ok (.aload_n 1, 1) := by decide +kernel
theorem dX2_thanks_1 : decode cX2_thanks 1 = .ok (.bipush 61, 2) := by decide +kernel
theorem dX2_thanks_3 : decode cX2_thanks 3 = .ok (.invokevirtual 15, 3) := by decide +kernel
theorem dX2_thanks_6 : decode cX2_thanks 6 = .ok (.aload_n 0, 1) := by decide +kernel
theorem dX2_thanks_7 : decode cX2_thanks 7 = .ok (.aload_n 1, 1) := by decide +kernel
theorem dX2_thanks_8 : decode cX2_thanks 8 = .ok (.iload_n 2, 1) := by decide +kernel
theorem dX2_thanks_9 : decode cX2_thanks 9 = .ok (.invokespecial 29, 3) := by decide +kernel
theorem dX2_thanks_12 : decode cX2_thanks 12 = .ok (.aload_n 0, 1) := by decide +kernel
theorem dX2_thanks_13 : decode cX2_thanks 13 = .ok (.aload_n 1, 1) := by decide +kernel
theorem dX2_thanks_14 : decode cX2_thanks 14 = .ok (.aload_n 1, 1) := by decide +kernel
theorem dX2_thanks_15 : decode cX2_thanks 15 = .ok (.getfield 32, 3) := by decide +kernel
theorem dX2_thanks_18 : decode cX2_thanks 18 = .ok (.invokevirtual 35, 3) := by decide +kernel
theorem dX2_thanks_21 : decode cX2_thanks 21 = .ok (.iadd, 1) := by decide +kernel
theorem dX2_thanks_22 : decode cX2_thanks 22 = .ok (.ireturn, 1) := by decide +kernel
theorem dX3_init_0 : decode cX3_init 0 = .ok (.aload_n 0, 1) := by decide +kernel
theorem dX3_init_1 : decode cX3_init 1 = .ok (.invokespecial 1, 3) := by decide +kernel
theorem dX3_init_4 : decode cX3_init 4 = .ok (.return_, 1) := by decide +kernel
theorem dX3_cheers_0 : decode cX3_cheers 0 = .ok (.aload_n 0, 1) := by decide +kernel
theorem dX3_cheers_1 : decode cX3_cheers 1 = .ok (.iload_n 1, 1) := by decide +kernel
theorem dX3_cheers_2 : decode cX3_cheers 2 = .ok (.iload_n 2, 1) := by decide +kernel
theorem dX3_cheers_3 : decode cX3_cheers 3 = .ok (.invokespecial 7, 3) := by decide +kernel
theorem dX3_cheers_6 : decode cX3_cheers 6 = .ok (.iload_n 2, 1) := by decide +kernel
theorem dX3_cheers_7 : decode cX3_cheers 7 = .ok (.iconst 2, 1) := by decide +kernel
theorem dX3_cheers_8 : decode cX3_cheers 8 = .ok (.irem, 1) := by decide +kernel
theorem dX3_cheers_9 : decode cX3_cheers 9 = .ok (.ifCond .ne 7, 3) := by decide +kernel
theorem dX3_cheers_12 : decode cX3_cheers 12 = .ok (.iconst 4, 1) := by decide +kernel
theorem dX3_cheers_13 : decode cX3_cheers 13 = .ok (.goto 4, 3) := by decide +kernel
theorem dX3_cheers_16 : decode cX3_cheers 16 = .ok (.iconst 0, 1) := by decide +kernel
theorem dX3_cheers_17 : decode cX3_cheers 17 = .ok (.iadd, 1) := by decide +kernel
theorem dX3_cheers_18 : decode cX3_cheers 18 = .ok (.ireturn, 1) := by decide +kernel
theorem dX3_pays_0 : decode cX3_pays 0 = .ok (.iconst 2, 1) := by decide +kernel
theorem dX3_pays_1 : decode cX3_pays 1 = .ok (.aload_n 0, 1) := by decide +kernel
theorem dX3_pays_2 : decode cX3_pays 2 = .ok (.iload_n 1, 1) := by decide +kernel
theorem dX3_pays_3 : decode cX3_pays 3 = .ok (.invokespecial 11, 3) := by decide +kernel
theorem dX3_pays_6 : decode cX3_pays 6 = .ok (.imul, 1) := by decide +kernel
theorem dX3_pays_7 : decode cX3_pays 7 = .ok (.ireturn, 1) := by decide +kernel
theorem dX3_knocks_0 : decode cX3_knocks 0 = .ok (.aload_n 1, 1) := by decide +kernel
theorem dX3_knocks_1 : decode cX3_knocks 1 = .ok (.bipush 50, 2) := by decide +kernel
theorem dX3_knocks_3 : decode cX3_knocks 3 = .ok (.invokevirtual 15, 3) := by decide +kernel
theorem dX3_knocks_6 : decode cX3_knocks 6 = .ok (.aload_n 0, 1) := by decide +kernel
theorem dX3_knocks_7 : decode cX3_knocks 7 = .ok (.aload_n 1, 1) := by decide +kernel
theorem dX3_knocks_8 : decode cX3_knocks 8 = .ok (.iload_n 2, 1) := by decide +kernel
theorem dX3_knocks_9 : decode cX3_knocks 9 = .ok (.invokespecial 21, 3) := by decide +kernel
theorem dX3_knocks_12 : decode cX3_knocks 12 = .ok (.bipush 9, 2) := by decide +kernel
theorem dX3_knocks_14 : decode cX3_knocks 14 = .ok (.ixor, 1) := by decide +kernel
theorem dX3_knocks_15 : decode cX3_knocks 15 = .ok (.ireturn, 1) := by decide +kernel
theorem dX3_deals_0 : decode cX3_deals 0 = .ok (.aload_n 1, 1) := by decide +kernel
theorem dX3_deals_1 : decode cX3_deals 1 = .ok (.bipush 51, 2) := by decide +kernel
theorem dX3_deals_3 : decode cX3_deals 3 = .ok (.invokevirtual 15, 3) := by decide +kernel
theorem dX3_deals_6 : decode cX3_deals 6 = .ok (.aload_n 0, 1) := by decide +kernel
theorem dX3_deals_7 : decode cX3_deals 7 = .ok (.aload_n 1, 1) := by decide +kernel
theorem dX3_deals_8 : decode cX3_deals 8 = .ok (.iload_n 2, 1) := by decide +kernel
theorem dX3_deals_9 : decode cX3_deals 9 = .ok (.invokespecial 25, 3) := by decide +kernel
theorem dX3_deals_12 : decode cX3_deals 12 = .ok (.aload_n 0, 1) := by decide +kernel
theorem dX3_deals_13 : decode cX3_deals 13 = .ok (.aload_n 1, 1) := by decide +kernel
theorem dX3_deals_14 : decode cX3_deals 14 = .ok (.aload_n 1, 1) := by decide +kernel
theorem dX3_deals_15 : decode cX3_deals 15 = .ok (.getfield 28, 3) := by decide +kernel
theorem dX3_deals_18 : decode cX3_deals 18 = .ok (.invokevirtual 32, 3) := by decide +kernel
theorem dX3_deals_21 : decode cX3_deals 21 = .ok (.isub, 1) := by decide +kernel
theorem dX3_deals_22 : decode cX3_deals 22 = .ok (.ireturn, 1) := by decide +kernel
theorem dX4_init_0 : decode cX4_init 0 = .ok (.aload_n 0, 1) := by decide +kernel
theorem dX4_init_1 : decode cX4_init 1 = .ok (.invokespecial 1, 3) := by decide +kernel
theorem dX4_init_4 : decode cX4_init 4 = .ok (.return_, 1) := by decide +kernel
theorem dX4_cheers_0 : decode cX4_cheers 0 = .ok (.iload_n 1, 1) := by decide +kernel
theorem dX4_cheers_1 : decode cX4_cheers 1 = .ok (.iconst 3, 1) := by decide +kernel
theorem dX4_cheers_2 : decode cX4_cheers 2 = .ok (.idiv, 1) := by decide +kernel
theorem dX4_cheers_3 : decode cX4_cheers 3 = .ok (.ireturn, 1) := by decide +kernel
theorem dX4_pays_0 : decode cX4_pays 0 = .ok (.iconst 4, 1) := by decide +kernel
theorem dX4_pays_1 : decode cX4_pays 1 = .ok (.ireturn, 1) := by decide +kernel
theorem dX4_knocks_0 : decode cX4_knocks 0 = .ok (.aload_n 1, 1) := by decide +kernel
theorem dX4_knocks_1 : decode cX4_knocks 1 = .ok (.bipush 10, 2) := by decide +kernel
theorem dX4_knocks_3 : decode cX4_knocks 3 = .ok (.invokevirtual 7, 3) := by decide +kernel
theorem dX4_knocks_6 : decode cX4_knocks 6 = .ok (.iload_n 2, 1) := by decide +kernel
theorem dX4_knocks_7 : decode cX4_knocks 7 = .ok (.iconst 3, 1) := by decide +kernel
theorem dX4_knocks_8 : decode cX4_knocks 8 = .ok (.imul, 1) := by decide +kernel
theorem dX4_knocks_9 : decode cX4_knocks 9 = .ok (.aload_n 1, 1) := by decide +kernel
theorem dX4_knocks_10 : decode cX4_knocks 10 = .ok (.getfield 13, 3) := by decide +kernel
theorem dX4_knocks_13 : decode cX4_knocks 13 = .ok (.isub, 1) := by decide +kernel
theorem dX4_knocks_14 : decode cX4_knocks 14 = .ok (.ireturn, 1) := by decide +kernel
theorem dX4_tells_0 : decode cX4_tells 0 = .ok (.aload_n 1, 1) := by decide +kernel
theorem dX4_tells_1 : decode cX4_tells 1 = .ok (.bipush 11, 2) := by decide +kernel
theorem dX4_tells_3 : decode cX4_tells 3 = .ok (.invokevirtual 7, 3) := by decide +kernel
theorem dX4_tells_6 : decode cX4_tells 6 = .ok (.aload_n 0, 1) := by decide +kernel
theorem dX4_tells_7 : decode cX4_tells 7 = .ok (.aload_n 1, 1) := by decide +kernel
theorem dX4_tells_8 : decode cX4_tells 8 = .ok (.iload_n 2, 1) := by decide +kernel
theorem dX4_tells_9 : decode cX4_tells 9 = .ok (.invokevirtual 17, 3) := by decide +kernel
theorem dX4_tells_12 : decode cX4_tells 12 = .ok (.iconst 2, 1) := by decide +kernel
theorem dX4_tells_13 : decode cX4_tells 13 = .ok (.aload_n 1, 1) := by decide +kernel
theorem dX4_tells_14 : decode cX4_tells 14 = .ok (.getfield 23, 3) := by decide +kernel
theorem dX4_tells_17 : decode cX4_tells 17 = .ok (.imul, 1) := by decide +kernel
theorem dX4_tells_18 : decode cX4_tells 18 = .ok (.iadd, 1) := by decide +kernel
theorem dX4_tells_19 : decode cX4_tells 19 = .ok (.ireturn, 1) := by decide +kernel
theorem dX4_thanks_0 : decode cX4_thanks 0 = .ok (.aload_n 1, 1) := by decide +kernel
theorem dX4_thanks_1 : decode cX4_thanks 1 = .ok (.bipush 12, 2) := by decide +kernel
theorem dX4_thanks_3 : decode cX4_thanks 3 = .ok (.invokevirtual 7, 3) := by decide +kernel
theorem dX4_thanks_6 : decode cX4_thanks 6 = .ok (.aload_n 1, 1) := by decide +kernel
theorem dX4_thanks_7 : decode cX4_thanks 7 = .ok (.getfield 23, 3) := by decide +kernel
theorem dX4_thanks_10 : decode cX4_thanks 10 = .ok (.aload_n 1, 1) := by decide +kernel
theorem dX4_thanks_11 : decode cX4_thanks 11 = .ok (.getfield 13, 3) := by decide +kernel
theorem dX4_thanks_14 : decode cX4_thanks 14 = .ok (.isub, 1) := by decide +kernel
theorem dX4_thanks_15 : decode cX4_thanks 15 = .ok (.istore_n 3, 1) := by decide +kernel
theorem dX4_thanks_16 : decode cX4_thanks 16 = .ok (.iload_n 3, 1) := by decide +kernel
theorem dX4_thanks_17 : decode cX4_thanks 17 = .ok (.ifCond .ne 10, 3) := by decide +kernel
theorem dX4_thanks_20 : decode cX4_thanks 20 = .ok (.aload_n 1, 1) := by decide +kernel
theorem dX4_thanks_21 : decode cX4_thanks 21 = .ok (.iconst 1, 1) := by decide +kernel
theorem dX4_thanks_22 : decode cX4_thanks 22 = .ok (.putfield 26, 3) := by decide +kernel
theorem dX4_thanks_25 : decode cX4_thanks 25 = .ok (.iconst 0, 1) := by decide +kernel
theorem dX4_thanks_26 : decode cX4_thanks 26 = .ok (.ireturn, 1) := by decide +kernel
theorem dX4_thanks_27 : decode cX4_thanks 27 = .ok (.iload_n 2, 1) := by decide +kernel
theorem dX4_thanks_28 : decode cX4_thanks 28 = .ok (.iload_n 3, 1) := by decide +kernel
theorem dX4_thanks_29 : decode cX4_thanks 29 = .ok (.irem, 1) := by decide +kernel
theorem dX4_thanks_30 : decode cX4_thanks 30 = .ok (.ireturn, 1) := by decide +kernel
theorem dX4_deals_0 : decode cX4_deals 0 = .ok (.aload_n 1, 1) := by decide +kernel
theorem dX4_deals_1 : decode cX4_deals 1 = .ok (.bipush 13, 2) := by decide +kernel
theorem dX4_deals_3 : decode cX4_deals 3 = .ok (.invokevirtual 7, 3) := by decide +kernel
theorem dX4_deals_6 : decode cX4_deals 6 = .ok (.aload_n 0, 1) := by decide +kernel
theorem dX4_deals_7 : decode cX4_deals 7 = .ok (.aload_n 1, 1) := by decide +kernel
theorem dX4_deals_8 : decode cX4_deals 8 = .ok (.iload_n 2, 1) := by decide +kernel
theorem dX4_deals_9 : decode cX4_deals 9 = .ok (.invokevirtual 30, 3) := by decide +kernel
theorem dX4_deals_12 : decode cX4_deals 12 = .ok (.aload_n 0, 1) := by decide +kernel
theorem dX4_deals_13 : decode cX4_deals 13 = .ok (.aload_n 1, 1) := by decide +kernel
theorem dX4_deals_14 : decode cX4_deals 14 = .ok (.iload_n 2, 1) := by decide +kernel
theorem dX4_deals_15 : decode cX4_deals 15 = .ok (.invokevirtual 33, 3) := by decide +kernel
theorem dX4_deals_18 : decode cX4_deals 18 = .ok (.ixor, 1) := by decide +kernel
theorem dX4_deals_19 : decode cX4_deals 19 = .ok (.ireturn, 1) := by decide +kernel
theorem dX5_init_0 : decode cX5_init 0 = .ok (.aload_n 0, 1) := by decide +kernel
theorem dX5_init_1 : decode cX5_init 1 = .ok (.invokespecial 1, 3) := by decide +kernel
theorem dX5_init_4 : decode cX5_init 4 = .ok (.return_, 1) := by decide +kernel
theorem dX5_cheers_0 : decode cX5_cheers 0 = .ok (.aload_n 0, 1) := by decide +kernel
theorem dX5_cheers_1 : decode cX5_cheers 1 = .ok (.iload_n 1, 1) := by decide +kernel
theorem dX5_cheers_2 : decode cX5_cheers 2 = .ok (.iload_n 2, 1) := by decide +kernel
theorem dX5_cheers_3 : decode cX5_cheers 3 = .ok (.invokespecial 7, 3) := by decide +kernel
theorem dX5_cheers_6 : decode cX5_cheers 6 = .ok (.iconst 3, 1) := by decide +kernel
theorem dX5_cheers_7 : decode cX5_cheers 7 = .ok (.isub, 1) := by decide +kernel
theorem dX5_cheers_8 : decode cX5_cheers 8 = .ok (.ireturn, 1) := by decide +kernel
theorem dX5_pays_0 : decode cX5_pays 0 = .ok (.aload_n 0, 1) := by decide +kernel
theorem dX5_pays_1 : decode cX5_pays 1 = .ok (.iload_n 1, 1) := by decide +kernel
theorem dX5_pays_2 : decode cX5_pays 2 = .ok (.invokespecial 11, 3) := by decide +kernel
theorem dX5_pays_5 : decode cX5_pays 5 = .ok (.iload_n 1, 1) := by decide +kernel
theorem dX5_pays_6 : decode cX5_pays 6 = .ok (.iadd, 1) := by decide +kernel
theorem dX5_pays_7 : decode cX5_pays 7 = .ok (.ireturn, 1) := by decide +kernel
theorem dX5_tells_0 : decode cX5_tells 0 = .ok (.aload_n 1, 1) := by decide +kernel
theorem dX5_tells_1 : decode cX5_tells 1 = .ok (.bipush 30, 2) := by decide +kernel
theorem dX5_tells_3 : decode cX5_tells 3 = .ok (.invokevirtual 15, 3) := by decide +kernel
theorem dX5_tells_6 : decode cX5_tells 6 = .ok (.aload_n 0, 1) := by decide +kernel
theorem dX5_tells_7 : decode cX5_tells 7 = .ok (.aload_n 1, 1) := by decide +kernel
theorem dX5_tells_8 : decode cX5_tells 8 = .ok (.iload_n 2, 1) := by decide +kernel
theorem dX5_tells_9 : decode cX5_tells 9 = .ok (.aload_n 1, 1) := by decide +kernel
theorem dX5_tells_10 : decode cX5_tells 10 = .ok (.getfield 21, 3) := by decide +kernel
theorem dX5_tells_13 : decode cX5_tells 13 = .ok (.isub, 1) := by decide +kernel
theorem dX5_tells_14 : decode cX5_tells 14 = .ok (.invokespecial 25, 3) := by decide +kernel
theorem dX5_tells_17 : decode cX5_tells 17 = .ok (.ireturn, 1) := by decide +kernel
theorem dX6_init_0 : decode cX6_init 0 = .ok (.aload_n 0, 1) := by decide +kernel
theorem dX6_init_1 : decode cX6_init 1 = .ok (.invokespecial 3, 3) := by decide +kernel
theorem dX6_init_4 : decode cX6_init 4 = .ok (.aload_n 0, 1) := by decide +kernel
theorem dX6_init_5 : decode cX6_init 5 = .ok (.iconst 5, 1) := by decide +kernel
theorem dX6_init_6 : decode cX6_init 6 = .ok (.newarray .int, 2) := by decide +kernel
theorem dX6_init_8 : decode cX6_init 8 = .ok (.putfield 9, 3) := by decide +kernel
theorem dX6_init_11 : decode cX6_init 11 = .ok (.aload_n 0, 1) := by decide +kernel
theorem dX6_init_12 : decode cX6_init 12 = .ok (.iconst 5, 1) := by decide +kernel
theorem dX6_init_13 : decode cX6_init 13 = .ok (.iconst 4, 1) := by decide +kernel
theorem dX6_init_14 : decode cX6_init 14 = .ok (.multianewarray 15 2, 4) := by decide +kernel
theorem dX6_init_18 : decode cX6_init 18 = .ok (.putfield 17, 3) := by decide +kernel
theorem dX6_init_21 : decode cX6_init 21 = .ok (.aload_n 0, 1) := by decide +kernel
theorem dX6_init_22 : decode cX6_init 22 = .ok (.aload_n 1, 1) := by decide +kernel
theorem dX6_init_23 : decode cX6_init 23 = .ok (.putfield 20, 3) := by decide +kernel
theorem dX6_init_26 : decode cX6_init 26 = .ok (.return_, 1) := by decide +kernel
theorem dX6_search_0 : decode cX6_search 0 = .ok (.iload_n 1, 1) := by decide +kernel
theorem dX6_search_1 : decode cX6_search 1 = .ok (.iconst 1, 1) := by decide +kernel
theorem dX6_search_2 : decode cX6_search 2 = .ok (.if_icmp .lt 8, 3) := by decide +kernel
theorem dX6_search_5 : decode cX6_search 5 = .ok (.iload_n 1, 1) := by decide +kernel
theorem dX6_search_6 : decode cX6_search 6 = .ok (.iconst 4, 1) := by decide +kernel
theorem dX6_search_7 : decode cX6_search 7 = .ok (.if_icmp .le 12, 3) := by decide +kernel
theorem dX6_search_10 : decode cX6_search 10 = .ok (.aload_n 0, 1) := by decide +kernel
theorem dX6_search_11 : decode cX6_search 11 = .ok (.getfield 9, 3) := by decide +kernel
theorem dX6_search_14 : decode cX6_search 14 = .ok (.iconst 0, 1) := by decide +kernel
theorem dX6_search_15 : decode cX6_search 15 = .ok (.iconst 1, 1) := by decide +kernel
theorem dX6_search_16 : decode cX6_search 16 = .ok (.iastore, 1) := by decide +kernel
theorem dX6_search_17 : decode cX6_search 17 = .ok (.iconst 0, 1) := by decide +kernel
theorem dX6_search_18 : decode cX6_search 18 = .ok (.ireturn, 1) := by decide +kernel
theorem dX6_search_19 : decode cX6_search 19 = .ok (.aload_n 0, 1) := by decide +kernel
theorem dX6_search_20 : decode cX6_search 20 = .ok (.getfield 20, 3) := by decide +kernel
theorem dX6_search_23 : decode cX6_search 23 = .ok (.invokevirtual 24, 3) := by decide +kernel
theorem dX6_search_26 : decode cX6_search 26 = .ok (.istore_n 2, 1) := by decide +kernel
theorem dX6_search_27 : decode cX6_search 27 = .ok (.iconst (-1), 1) := by decide +kernel
theorem dX6_search_28 : decode cX6_search 28 = .ok (.istore_n 3, 1) := by decide +kernel
theorem dX6_search_29 : decode cX6_search 29 = .ok (.iconst (-1), 1) := by decide +kernel
theorem dX6_search_30 : decode cX6_search 30 = .ok (.istore 4, 2) := by decide +kernel
theorem dX6_search_32 : decode cX6_search 32 = .ok (.iconst 0, 1) := by decide +kernel
theorem dX6_search_33 : decode cX6_search 33 = .ok (.istore 5, 2) := by decide +kernel
theorem dX6_search_35 : decode cX6_search 35 = .ok (.iconst 0, 1) := by decide +kernel
theorem dX6_search_36 : decode cX6_search 36 = .ok (.istore 6, 2) := by decide +kernel
theorem dX6_search_38 : decode cX6_search 38 = .ok (.iconst 0, 1) := by decide +kernel
theorem dX6_search_39 : decode cX6_search 39 = .ok (.istore 7, 2) := by decide +kernel
theorem dX6_search_41 : decode cX6_search 41 = .ok (.iload 7, 2) := by decide +kernel
theorem dX6_search_43 : decode cX6_search 43 = .ok (.aload_n 0, 1) := by decide +kernel
theorem dX6_search_44 : decode cX6_search 44 = .ok (.getfield 20, 3) := by decide +kernel
theorem dX6_search_47 : decode cX6_search 47 = .ok (.getfield 30, 3) := by decide +kernel
theorem dX6_search_50 : decode cX6_search 50 = .ok (.if_icmp .gt 153, 3) := by decide +kernel
theorem dX6_search_53 : decode cX6_search 53 = .ok (.aload_n 0, 1) := by decide +kernel
theorem dX6_search_54 : decode cX6_search 54 = .ok (.getfield 20, 3) := by decide +kernel
theorem dX6_search_57 : decode cX6_search 57 = .ok (.iload 7, 2) := by decide +kernel
theorem dX6_search_59 : decode cX6_search 59 = .ok (.invokevirtual 34, 3) := by decide +kernel
theorem dX6_search_62 : decode cX6_search 62 = .ok (.istore 8, 2) := by decide +kernel
theorem dX6_search_64 : decode cX6_search 64 = .ok (.aload_n 0, 1) := by decide +kernel
theorem dX6_search_65 : decode cX6_search 65 = .ok (.getfield 20, 3) := by decide +kernel
theorem dX6_search_68 : decode cX6_search 68 = .ok (.invokevirtual 24, 3) := by decide +kernel
theorem dX6_search_71 : decode cX6_search 71 = .ok (.istore 9, 2) := by decide +kernel
theorem dX6_search_73 : decode cX6_search 73 = .ok (.iload 9, 2) := by decide +kernel
theorem dX6_search_75 : decode cX6_search 75 = .ok (.iload 4, 2) := by decide +kernel
theorem dX6_search_77 : decode cX6_search 77 = .ok (.if_icmp .ne 27, 3) := by decide +kernel
theorem dX6_search_80 : decode cX6_search 80 = .ok (.aload_n 0, 1) := by decide +kernel
theorem dX6_search_81 : decode cX6_search 81 = .ok (.getfield 9, 3) := by decide +kernel
theorem dX6_search_84 : decode cX6_search 84 = .ok (.iload_n 1, 1) := by decide +kernel
theorem dX6_search_85 : decode cX6_search 85 = .ok (.dup2, 1) := by decide +kernel
theorem dX6_search_86 : decode cX6_search 86 = .ok (.iaload, 1) := by decide +kernel
theorem dX6_search_87 : decode cX6_search 87 = .ok (.iload 5, 2) := by decide +kernel
theorem dX6_search_89 : decode cX6_search 89 = .ok (.iload_n 3, 1) := by decide +kernel
theorem dX6_search_90 : decode cX6_search 90 = .ok (.if_icmp .ne 8, 3) := by decide +kernel
theorem dX6_search_93 : decode cX6_search 93 = .ok (.iload 6, 2) := by decide +kernel
theorem dX6_search_95 : decode cX6_search 95 = .ok (.goto 4, 3) := by decide +kernel
theorem dX6_search_98 : decode cX6_search 98 = .ok (.iconst 0, 1) := by decide +kernel
theorem dX6_search_99 : decode cX6_search 99 = .ok (.iadd, 1) := by decide +kernel
theorem dX6_search_100 : decode cX6_search 100 = .ok (.iastore, 1) := by decide +kernel
theorem dX6_search_101 : decode cX6_search 101 = .ok (.goto 88, 3) := by decide +kernel
theorem dX6_search_104 : decode cX6_search 104 = .ok (.iload 8, 2) := by decide +kernel
theorem dX6_search_106 : decode cX6_search 106 = .ok (.aload_n 0, 1) := by decide +kernel
theorem dX6_search_107 : decode cX6_search 107 = .ok (.iload_n 1, 1) := by decide +kernel
theorem dX6_search_108 : decode cX6_search 108 = .ok (.iconst 1, 1) := by decide +kernel
theorem dX6_search_109 : decode cX6_search 109 = .ok (.isub, 1) := by decide +kernel
theorem dX6_search_110 : decode cX6_search 110 = .ok (.invokevirtual 38, 3) := by decide +kernel
theorem dX6_search_113 : decode cX6_search 113 = .ok (.iadd, 1) := by decide +kernel
theorem dX6_search_114 : decode cX6_search 114 = .ok (.istore 10, 2) := by decide +kernel
theorem dX6_search_116 : decode cX6_search 116 = .ok (.iload 10, 2) := by decide +kernel
theorem dX6_search_118 : decode cX6_search 118 = .ok (.iload_n 3, 1) := by decide +kernel
theorem dX6_search_119 : decode cX6_search 119 = .ok (.if_icmp .le 20, 3) := by decide +kernel
theorem dX6_search_122 : decode cX6_search 122 = .ok (.iload 10, 2) := by decide +kernel
theorem dX6_search_124 : decode cX6_search 124 = .ok (.istore_n 3, 1) := by decide +kernel
theorem dX6_search_125 : decode cX6_search 125 = .ok (.aload_n 0, 1) := by decide +kernel
theorem dX6_search_126 : decode cX6_search 126 = .ok (.getfield 9, 3) := by decide +kernel
theorem dX6_search_129 : decode cX6_search 129 = .ok (.iload_n 1, 1) := by decide +kernel
theorem dX6_search_130 : decode cX6_search 130 = .ok (.iconst 0, 1) := by decide +kernel
theorem dX6_search_131 : decode cX6_search 131 = .ok (.iastore, 1) := by decide +kernel
theorem dX6_search_132 : decode cX6_search 132 = .ok (.aload_n 0, 1) := by decide +kernel
theorem dX6_search_133 : decode cX6_search 133 = .ok (.iload_n 1, 1) := by decide +kernel
theorem dX6_search_134 : decode cX6_search 134 = .ok (.iload 7, 2) := by decide +kernel
theorem dX6_search_136 : decode cX6_search 136 = .ok (.invokevirtual 41, 3) := by decide +kernel
theorem dX6_search_139 : decode cX6_search 139 = .ok (.aload_n 0, 1) := by decide +kernel
theorem dX6_search_140 : decode cX6_search 140 = .ok (.getfield 9, 3) := by decide +kernel
theorem dX6_search_143 : decode cX6_search 143 = .ok (.iload_n 1, 1) := by decide +kernel
theorem dX6_search_144 : decode cX6_search 144 = .ok (.dup2, 1) := by decide +kernel
theorem dX6_search_145 : decode cX6_search 145 = .ok (.iaload, 1) := by decide +kernel
theorem dX6_search_146 : decode cX6_search 146 = .ok (.iload 10, 2) := by decide +kernel
theorem dX6_search_148 : decode cX6_search 148 = .ok (.iload_n 3, 1) := by decide +kernel
theorem dX6_search_149 : decode cX6_search 149 = .ok (.if_icmp .ne 14, 3) := by decide +kernel
theorem dX6_search_152 : decode cX6_search 152 = .ok (.aload_n 0, 1) := by decide +kernel
theorem dX6_search_153 : decode cX6_search 153 = .ok (.getfield 9, 3) := by decide +kernel
theorem dX6_search_156 : decode cX6_search 156 = .ok (.iload_n 1, 1) := by decide +kernel
theorem dX6_search_157 : decode cX6_search 157 = .ok (.iconst 1, 1) := by decide +kernel
theorem dX6_search_158 : decode cX6_search 158 = .ok (.isub, 1) := by decide +kernel
theorem dX6_search_159 : decode cX6_search 159 = .ok (.iaload, 1) := by decide +kernel
theorem dX6_search_160 : decode cX6_search 160 = .ok (.goto 4, 3) := by decide +kernel
theorem dX6_search_163 : decode cX6_search 163 = .ok (.iconst 0, 1) := by decide +kernel
theorem dX6_search_164 : decode cX6_search 164 = .ok (.iadd, 1) := by decide +kernel
theorem dX6_search_165 : decode cX6_search 165 = .ok (.iastore, 1) := by decide +kernel
theorem dX6_search_166 : decode cX6_search 166 = .ok (.iload 7, 2) := by decide +kernel
theorem dX6_search_168 : decode cX6_search 168 = .ok (.ifCond .ne 21, 3) := by decide +kernel
theorem dX6_search_171 : decode cX6_search 171 = .ok (.iload 9, 2) := by decide +kernel
theorem dX6_search_173 : decode cX6_search 173 = .ok (.istore 4, 2) := by decide +kernel
theorem dX6_search_175 : decode cX6_search 175 = .ok (.iload 10, 2) := by decide +kernel
theorem dX6_search_177 : decode cX6_search 177 = .ok (.istore 5, 2) := by decide +kernel
theorem dX6_search_179 : decode cX6_search 179 = .ok (.aload_n 0, 1) := by decide +kernel
theorem dX6_search_180 : decode cX6_search 180 = .ok (.getfield 9, 3) := by decide +kernel
theorem dX6_search_183 : decode cX6_search 183 = .ok (.iload_n 1, 1) := by decide +kernel
theorem dX6_search_184 : decode cX6_search 184 = .ok (.iconst 1, 1) := by decide +kernel
theorem dX6_search_185 : decode cX6_search 185 = .ok (.isub, 1) := by decide +kernel
theorem dX6_search_186 : decode cX6_search 186 = .ok (.iaload, 1) := by decide +kernel
theorem dX6_search_187 : decode cX6_search 187 = .ok (.istore 6, 2) := by decide +kernel
theorem dX6_search_189 : decode cX6_search 189 = .ok (.aload_n 0, 1) := by decide +kernel
theorem dX6_search_190 : decode cX6_search 190 = .ok (.getfield 20, 3) := by decide +kernel
theorem dX6_search_193 : decode cX6_search 193 = .ok (.iload_n 2, 1) := by decide +kernel
theorem dX6_search_194 : decode cX6_search 194 = .ok (.invokevirtual 45, 3) := by decide +kernel
theorem dX6_search_197 : decode cX6_search 197 = .ok (.iinc 7 1, 3) := by decide +kernel
theorem dX6_search_200 : decode cX6_search 200 = .ok (.goto (-159), 3) := by decide +kernel
theorem dX6_search_203 : decode cX6_search 203 = .ok (.iload_n 3, 1) := by decide +kernel
theorem dX6_search_204 : decode cX6_search 204 = .ok (.ireturn, 1) := by decide +kernel
theorem dX6_noteBetter_0 : decode cX6_noteBetter 0 = .ok (.aload_n 0, 1) := by decide +kernel
theorem dX6_noteBetter_1 : decode cX6_noteBetter 1 = .ok (.getfield 17, 3) := by decide +kernel
theorem dX6_noteBetter_4 : decode cX6_noteBetter 4 = .ok (.iload_n 1, 1) := by decide +kernel
theorem dX6_noteBetter_5 : decode cX6_noteBetter 5 = .ok (.aaload, 1) := by decide +kernel
theorem dX6_noteBetter_6 : decode cX6_noteBetter 6 = .ok (.iconst 0, 1) := by decide +kernel
theorem dX6_noteBetter_7 : decode cX6_noteBetter 7 = .ok (.iload_n 2, 1) := by decide +kernel
theorem dX6_noteBetter_8 : decode cX6_noteBetter 8 = .ok (.iastore, 1) := by decide +kernel
theorem dX6_noteBetter_9 : decode cX6_noteBetter 9 = .ok (.aload_n 0, 1) := by decide +kernel
theorem dX6_noteBetter_10 : decode cX6_noteBetter 10 = .ok (.getfield 17, 3) := by decide +kernel
theorem dX6_noteBetter_13 : decode cX6_noteBetter 13 = .ok (.iload_n 1, 1) := by decide +kernel
theorem dX6_noteBetter_14 : decode cX6_noteBetter 14 = .ok (.iconst 1, 1) := by decide +kernel
theorem dX6_noteBetter_15 : decode cX6_noteBetter 15 = .ok (.isub, 1) := by decide +kernel
theorem dX6_noteBetter_16 : decode cX6_noteBetter 16 = .ok (.aaload, 1) := by decide +kernel
theorem dX6_noteBetter_17 : decode cX6_noteBetter 17 = .ok (.iconst 0, 1) := by decide +kernel
theorem dX6_noteBetter_18 : decode cX6_noteBetter 18 = .ok (.aload_n 0, 1) := by decide +kernel
theorem dX6_noteBetter_19 : decode cX6_noteBetter 19 = .ok (.getfield 17, 3) := by decide +kernel
theorem dX6_noteBetter_22 : decode cX6_noteBetter 22 = .ok (.iload_n 1, 1) := by decide +kernel
theorem dX6_noteBetter_23 : decode cX6_noteBetter 23 = .ok (.aaload, 1) := by decide +kernel
theorem dX6_noteBetter_24 : decode cX6_noteBetter 24 = .ok (.iconst 1, 1) := by decide +kernel
theorem dX6_noteBetter_25 : decode cX6_noteBetter 25 = .ok (.iload_n 1, 1) := by decide +kernel
theorem dX6_noteBetter_26 : decode cX6_noteBetter 26 = .ok (.iconst 1, 1) := by decide +kernel
theorem dX6_noteBetter_27 : decode cX6_noteBetter 27 = .ok (.isub, 1) := by decide +kernel
theorem dX6_noteBetter_28 : decode cX6_noteBetter 28 = .ok (.invokestatic 49, 3) := by decide +kernel
theorem dX6_noteBetter_31 : decode cX6_noteBetter 31 = .ok (.return_, 1) := by decide +kernel
theorem dX6_fewestActs_0 : decode cX6_fewestActs 0 = .ok (.iload_n 2, 1) := by decide +kernel
theorem dX6_fewestActs_1 : decode cX6_fewestActs 1 = .ok (.aload_n 0, 1) := by decide +kernel
theorem dX6_fewestActs_2 : decode cX6_fewestActs 2 = .ok (.getfield 20, 3) := by decide +kernel
theorem dX6_fewestActs_5 : decode cX6_fewestActs 5 = .ok (.getfield 55, 3) := by decide +kernel
theorem dX6_fewestActs_8 : decode cX6_fewestActs 8 = .ok (.iconst (-1), 1) := by decide +kernel
theorem dX6_fewestActs_9 : decode cX6_fewestActs 9 = .ok (.ixor, 1) := by decide +kernel
theorem dX6_fewestActs_10 : decode cX6_fewestActs 10 = .ok (.iand, 1) := by decide +kernel
theorem dX6_fewestActs_11 : decode cX6_fewestActs 11 = .ok (.ifCond .ne 5, 3) := by decide +kernel
theorem dX6_fewestActs_14 : decode cX6_fewestActs 14 = .ok (.iconst 0, 1) := by decide +kernel
theorem dX6_fewestActs_15 : decode cX6_fewestActs 15 = .ok (.ireturn, 1) := by decide +kernel
theorem dX6_fewestActs_16 : decode cX6_fewestActs 16 = .ok (.iload_n 1, 1) := by decide +kernel
theorem dX6_fewestActs_17 : decode cX6_fewestActs 17 = .ok (.iconst 1, 1) := by decide +kernel
theorem dX6_fewestActs_18 : decode cX6_fewestActs 18 = .ok (.if_icmp .lt 8, 3) := by decide +kernel
theorem dX6_fewestActs_21 : decode cX6_fewestActs 21 = .ok (.iload_n 1, 1) := by decide +kernel
theorem dX6_fewestActs_22 : decode cX6_fewestActs 22 = .ok (.iconst 4, 1) := by decide +kernel
theorem dX6_fewestActs_23 : decode cX6_fewestActs 23 = .ok (.if_icmp .le 6, 3) := by decide +kernel
theorem dX6_fewestActs_26 : decode cX6_fewestActs 26 = .ok (.bipush 99, 2) := by decide +kernel
theorem dX6_fewestActs_28 : decode cX6_fewestActs 28 = .ok (.ireturn, 1) := by decide +kernel
theorem dX6_fewestActs_29 : decode cX6_fewestActs 29 = .ok (.aload_n 0, 1) := by decide +kernel
theorem dX6_fewestActs_30 : decode cX6_fewestActs 30 = .ok (.getfield 20, 3) := by decide +kernel
theorem dX6_fewestActs_33 : decode cX6_fewestActs 33 = .ok (.invokevirtual 24, 3) := by decide +kernel
theorem dX6_fewestActs_36 : decode cX6_fewestActs 36 = .ok (.istore_n 3, 1) := by decide +kernel
theorem dX6_fewestActs_37 : decode cX6_fewestActs 37 = .ok (.bipush 99, 2) := by decide +kernel
theorem dX6_fewestActs_39 : decode cX6_fewestActs 39 = .ok (.istore 4, 2) := by decide +kernel
theorem dX6_fewestActs_41 : decode cX6_fewestActs 41 = .ok (.iconst (-1), 1) := by decide +kernel
theorem dX6_fewestActs_42 : decode cX6_fewestActs 42 = .ok (.istore 5, 2) := by decide +kernel
theorem dX6_fewestActs_44 : decode cX6_fewestActs 44 = .ok (.iconst 0, 1) := by decide +kernel
theorem dX6_fewestActs_45 : decode cX6_fewestActs 45 = .ok (.istore 6, 2) := by decide +kernel
theorem dX6_fewestActs_47 : decode cX6_fewestActs 47 = .ok (.iload 6, 2) := by decide +kernel
theorem dX6_fewestActs_49 : decode cX6_fewestActs 49 = .ok (.aload_n 0, 1) := by decide +kernel
theorem dX6_fewestActs_50 : decode cX6_fewestActs 50 = .ok (.getfield 20, 3) := by decide +kernel
theorem dX6_fewestActs_53 : decode cX6_fewestActs 53 = .ok (.getfield 30, 3) := by decide +kernel
theorem dX6_fewestActs_56 : decode cX6_fewestActs 56 = .ok (.if_icmp .gt 78, 3) := by decide +kernel
theorem dX6_fewestActs_59 : decode cX6_fewestActs 59 = .ok (.aload_n 0, 1) := by decide +kernel
theorem dX6_fewestActs_60 : decode cX6_fewestActs 60 = .ok (.getfield 20, 3) := by decide +kernel
theorem dX6_fewestActs_63 : decode cX6_fewestActs 63 = .ok (.iload 6, 2) := by decide +kernel
theorem dX6_fewestActs_65 : decode cX6_fewestActs 65 = .ok (.invokevirtual 34, 3) := by decide +kernel
theorem dX6_fewestActs_68 : decode cX6_fewestActs 68 = .ok (.pop, 1) := by decide +kernel
theorem dX6_fewestActs_69 : decode cX6_fewestActs 69 = .ok (.aload_n 0, 1) := by decide +kernel
theorem dX6_fewestActs_70 : decode cX6_fewestActs 70 = .ok (.getfield 20, 3) := by decide +kernel
theorem dX6_fewestActs_73 : decode cX6_fewestActs 73 = .ok (.invokevirtual 24, 3) := by decide +kernel
theorem dX6_fewestActs_76 : decode cX6_fewestActs 76 = .ok (.istore 7, 2) := by decide +kernel
theorem dX6_fewestActs_78 : decode cX6_fewestActs 78 = .ok (.iload 7, 2) := by decide +kernel
theorem dX6_fewestActs_80 : decode cX6_fewestActs 80 = .ok (.iload 5, 2) := by decide +kernel
theorem dX6_fewestActs_82 : decode cX6_fewestActs 82 = .ok (.if_icmp .eq 29, 3) := by decide +kernel
theorem dX6_fewestActs_85 : decode cX6_fewestActs 85 = .ok (.iload 4, 2) := by decide +kernel
theorem dX6_fewestActs_87 : decode cX6_fewestActs 87 = .ok (.aload_n 0, 1) := by decide +kernel
theorem dX6_fewestActs_88 : decode cX6_fewestActs 88 = .ok (.iload_n 1, 1) := by decide +kernel
theorem dX6_fewestActs_89 : decode cX6_fewestActs 89 = .ok (.iconst 1, 1) := by decide +kernel
theorem dX6_fewestActs_90 : decode cX6_fewestActs 90 = .ok (.isub, 1) := by decide +kernel
theorem dX6_fewestActs_91 : decode cX6_fewestActs 91 = .ok (.iload_n 2, 1) := by decide +kernel
theorem dX6_fewestActs_92 : decode cX6_fewestActs 92 = .ok (.invokevirtual 58, 3) := by decide +kernel
theorem dX6_fewestActs_95 : decode cX6_fewestActs 95 = .ok (.iload 6, 2) := by decide +kernel
theorem dX6_fewestActs_97 : decode cX6_fewestActs 97 = .ok (.ifCond .ne 7, 3) := by decide +kernel
theorem dX6_fewestActs_100 : decode cX6_fewestActs 100 = .ok (.iconst 0, 1) := by decide +kernel
theorem dX6_fewestActs_101 : decode cX6_fewestActs 101 = .ok (.goto 4, 3) := by decide +kernel
theorem dX6_fewestActs_104 : decode cX6_fewestActs 104 = .ok (.iconst 1, 1) := by decide +kernel
theorem dX6_fewestActs_105 : decode cX6_fewestActs 105 = .ok (.iadd, 1) := by decide +kernel
theorem dX6_fewestActs_106 : decode cX6_fewestActs 106 = .ok (.invokestatic 62, 3) := by decide +kernel
theorem dX6_fewestActs_109 : decode cX6_fewestActs 109 = .ok (.istore 4, 2) := by decide +kernel
theorem dX6_fewestActs_111 : decode cX6_fewestActs 111 = .ok (.iload 6, 2) := by decide +kernel
theorem dX6_fewestActs_113 : decode cX6_fewestActs 113 = .ok (.ifCond .ne 7, 3) := by decide +kernel
theorem dX6_fewestActs_116 : decode cX6_fewestActs 116 = .ok (.iload 7, 2) := by decide +kernel
theorem dX6_fewestActs_118 : decode cX6_fewestActs 118 = .ok (.istore 5, 2) := by decide +kernel
theorem dX6_fewestActs_120 : decode cX6_fewestActs 120 = .ok (.aload_n 0, 1) := by decide +kernel
theorem dX6_fewestActs_121 : decode cX6_fewestActs 121 = .ok (.getfield 20, 3) := by decide +kernel
theorem dX6_fewestActs_124 : decode cX6_fewestActs 124 = .ok (.iload_n 3, 1) := by decide +kernel
theorem dX6_fewestActs_125 : decode cX6_fewestActs 125 = .ok (.invokevirtual 45, 3) := by decide +kernel
theorem dX6_fewestActs_128 : decode cX6_fewestActs 128 = .ok (.iinc 6 1, 3) := by decide +kernel
theorem dX6_fewestActs_131 : decode cX6_fewestActs 131 = .ok (.goto (-84), 3) := by decide +kernel
theorem dX6_fewestActs_134 : decode cX6_fewestActs 134 = .ok (.iload 4, 2) := by decide +kernel
theorem dX6_fewestActs_136 : decode cX6_fewestActs 136 = .ok (.ireturn, 1) := by decide +kernel
theorem dX6_doneBySome_0 : decode cX6_doneBySome 0 = .ok (.iload_n 1, 1) := by decide +kernel
theorem dX6_doneBySome_1 : decode cX6_doneBySome 1 = .ok (.iconst 1, 1) := by decide +kernel
theorem dX6_doneBySome_2 : decode cX6_doneBySome 2 = .ok (.if_icmp .lt 8, 3) := by decide +kernel
theorem dX6_doneBySome_5 : decode cX6_doneBySome 5 = .ok (.iload_n 1, 1) := by decide +kernel
theorem dX6_doneBySome_6 : decode cX6_doneBySome 6 = .ok (.iconst 4, 1) := by decide +kernel
theorem dX6_doneBySome_7 : decode cX6_doneBySome 7 = .ok (.if_icmp .le 11, 3) := by decide +kernel
theorem dX6_doneBySome_10 : decode cX6_doneBySome 10 = .ok (.aload_n 0, 1) := by decide +kernel
theorem dX6_doneBySome_11 : decode cX6_doneBySome 11 = .ok (.getfield 20, 3) := by decide +kernel
theorem dX6_doneBySome_14 : decode cX6_doneBySome 14 = .ok (.getfield 55, 3) := by decide +kernel
theorem dX6_doneBySome_17 : decode cX6_doneBySome 17 = .ok (.ireturn, 1) := by decide +kernel
theorem dX6_doneBySome_18 : decode cX6_doneBySome 18 = .ok (.aload_n 0, 1) := by decide +kernel
theorem dX6_doneBySome_19 : decode cX6_doneBySome 19 = .ok (.getfield 20, 3) := by decide +kernel
theorem dX6_doneBySome_22 : decode cX6_doneBySome 22 = .ok (.invokevirtual 24, 3) := by decide +kernel
theorem dX6_doneBySome_25 : decode cX6_doneBySome 25 = .ok (.istore_n 2, 1) := by decide +kernel
theorem dX6_doneBySome_26 : decode cX6_doneBySome 26 = .ok (.iconst 0, 1) := by decide +kernel
theorem dX6_doneBySome_27 : decode cX6_doneBySome 27 = .ok (.istore_n 3, 1) := by decide +kernel
theorem dX6_doneBySome_28 : decode cX6_doneBySome 28 = .ok (.iconst (-1), 1) := by decide +kernel
theorem dX6_doneBySome_29 : decode cX6_doneBySome 29 = .ok (.istore 4, 2) := by decide +kernel
theorem dX6_doneBySome_31 : decode cX6_doneBySome 31 = .ok (.iconst 0, 1) := by decide +kernel
theorem dX6_doneBySome_32 : decode cX6_doneBySome 32 = .ok (.istore 5, 2) := by decide +kernel
theorem dX6_doneBySome_34 : decode cX6_doneBySome 34 = .ok (.iload 5, 2) := by decide +kernel
theorem dX6_doneBySome_36 : decode cX6_doneBySome 36 = .ok (.aload_n 0, 1) := by decide +kernel
theorem dX6_doneBySome_37 : decode cX6_doneBySome 37 = .ok (.getfield 20, 3) := by decide +kernel
theorem dX6_doneBySome_40 : decode cX6_doneBySome 40 = .ok (.getfield 30, 3) := by decide +kernel
theorem dX6_doneBySome_43 : decode cX6_doneBySome 43 = .ok (.if_icmp .gt 62, 3) := by decide +kernel
theorem dX6_doneBySome_46 : decode cX6_doneBySome 46 = .ok (.aload_n 0, 1) := by decide +kernel
theorem dX6_doneBySome_47 : decode cX6_doneBySome 47 = .ok (.getfield 20, 3) := by decide +kernel
theorem dX6_doneBySome_50 : decode cX6_doneBySome 50 = .ok (.iload 5, 2) := by decide +kernel
theorem dX6_doneBySome_52 : decode cX6_doneBySome 52 = .ok (.invokevirtual 34, 3) := by decide +kernel
theorem dX6_doneBySome_55 : decode cX6_doneBySome 55 = .ok (.pop, 1) := by decide +kernel
theorem dX6_doneBySome_56 : decode cX6_doneBySome 56 = .ok (.aload_n 0, 1) := by decide +kernel
theorem dX6_doneBySome_57 : decode cX6_doneBySome 57 = .ok (.getfield 20, 3) := by decide +kernel
theorem dX6_doneBySome_60 : decode cX6_doneBySome 60 = .ok (.invokevirtual 24, 3) := by decide +kernel
theorem dX6_doneBySome_63 : decode cX6_doneBySome 63 = .ok (.istore 6, 2) := by decide +kernel
theorem dX6_doneBySome_65 : decode cX6_doneBySome 65 = .ok (.iload 6, 2) := by decide +kernel
theorem dX6_doneBySome_67 : decode cX6_doneBySome 67 = .ok (.iload 4, 2) := by decide +kernel
theorem dX6_doneBySome_69 : decode cX6_doneBySome 69 = .ok (.if_icmp .eq 13, 3) := by decide +kernel
theorem dX6_doneBySome_72 : decode cX6_doneBySome 72 = .ok (.iload_n 3, 1) := by decide +kernel
theorem dX6_doneBySome_73 : decode cX6_doneBySome 73 = .ok (.aload_n 0, 1) := by decide +kernel
theorem dX6_doneBySome_74 : decode cX6_doneBySome 74 = .ok (.iload_n 1, 1) := by decide +kernel
theorem dX6_doneBySome_75 : decode cX6_doneBySome 75 = .ok (.iconst 1, 1) := by decide +kernel
theorem dX6_doneBySome_76 : decode cX6_doneBySome 76 = .ok (.isub, 1) := by decide +kernel
theorem dX6_doneBySome_77 : decode cX6_doneBySome 77 = .ok (.invokevirtual 67, 3) := by decide +kernel
theorem dX6_doneBySome_80 : decode cX6_doneBySome 80 = .ok (.ior, 1) := by decide +kernel
theorem dX6_doneBySome_81 : decode cX6_doneBySome 81 = .ok (.istore_n 3, 1) := by decide +kernel
theorem dX6_doneBySome_82 : decode cX6_doneBySome 82 = .ok (.iload 5, 2) := by decide +kernel
theorem dX6_doneBySome_84 : decode cX6_doneBySome 84 = .ok (.ifCond .ne 7, 3) := by decide +kernel
theorem dX6_doneBySome_87 : decode cX6_doneBySome 87 = .ok (.iload 6, 2) := by decide +kernel
theorem dX6_doneBySome_89 : decode cX6_doneBySome 89 = .ok (.istore 4, 2) := by decide +kernel
theorem dX6_doneBySome_91 : decode cX6_doneBySome 91 = .ok (.aload_n 0, 1) := by decide +kernel
theorem dX6_doneBySome_92 : decode cX6_doneBySome 92 = .ok (.getfield 20, 3) := by decide +kernel
theorem dX6_doneBySome_95 : decode cX6_doneBySome 95 = .ok (.iload_n 2, 1) := by decide +kernel
theorem dX6_doneBySome_96 : decode cX6_doneBySome 96 = .ok (.invokevirtual 45, 3) := by decide +kernel
theorem dX6_doneBySome_99 : decode cX6_doneBySome 99 = .ok (.iinc 5 1, 3) := by decide +kernel
theorem dX6_doneBySome_102 : decode cX6_doneBySome 102 = .ok (.goto (-68), 3) := by decide +kernel
theorem dX6_doneBySome_105 : decode cX6_doneBySome 105 = .ok (.iload_n 3, 1) := by decide +kernel
theorem dX6_doneBySome_106 : decode cX6_doneBySome 106 = .ok (.ireturn, 1) := by decide +kernel
theorem dX6_gameValue_0 : decode cX6_gameValue 0 = .ok (.iload_n 1, 1) := by decide +kernel
theorem dX6_gameValue_1 : decode cX6_gameValue 1 = .ok (.iconst 1, 1) := by decide +kernel
theorem dX6_gameValue_2 : decode cX6_gameValue 2 = .ok (.if_icmp .lt 8, 3) := by decide +kernel
theorem dX6_gameValue_5 : decode cX6_gameValue 5 = .ok (.iload_n 1, 1) := by decide +kernel
theorem dX6_gameValue_6 : decode cX6_gameValue 6 = .ok (.iconst 4, 1) := by decide +kernel
theorem dX6_gameValue_7 : decode cX6_gameValue 7 = .ok (.if_icmp .le 5, 3) := by decide +kernel
theorem dX6_gameValue_10 : decode cX6_gameValue 10 = .ok (.iconst 0, 1) := by decide +kernel
theorem dX6_gameValue_11 : decode cX6_gameValue 11 = .ok (.ireturn, 1) := by decide +kernel
theorem dX6_gameValue_12 : decode cX6_gameValue 12 = .ok (.aload_n 0, 1) := by decide +kernel
theorem dX6_gameValue_13 : decode cX6_gameValue 13 = .ok (.getfield 20, 3) := by decide +kernel
theorem dX6_gameValue_16 : decode cX6_gameValue 16 = .ok (.invokevirtual 24, 3) := by decide +kernel
theorem dX6_gameValue_19 : decode cX6_gameValue 19 = .ok (.istore_n 3, 1) := by decide +kernel
theorem dX6_gameValue_20 : decode cX6_gameValue 20 = .ok (.iconst 0, 1) := by decide +kernel
theorem dX6_gameValue_21 : decode cX6_gameValue 21 = .ok (.istore 4, 2) := by decide +kernel
theorem dX6_gameValue_23 : decode cX6_gameValue 23 = .ok (.iconst (-1), 1) := by decide +kernel
theorem dX6_gameValue_24 : decode cX6_gameValue 24 = .ok (.istore 5, 2) := by decide +kernel
theorem dX6_gameValue_26 : decode cX6_gameValue 26 = .ok (.iconst 0, 1) := by decide +kernel
theorem dX6_gameValue_27 : decode cX6_gameValue 27 = .ok (.istore 6, 2) := by decide +kernel
theorem dX6_gameValue_29 : decode cX6_gameValue 29 = .ok (.iload 6, 2) := by decide +kernel
theorem dX6_gameValue_31 : decode cX6_gameValue 31 = .ok (.aload_n 0, 1) := by decide +kernel
theorem dX6_gameValue_32 : decode cX6_gameValue 32 = .ok (.getfield 20, 3) := by decide +kernel
theorem dX6_gameValue_35 : decode cX6_gameValue 35 = .ok (.getfield 30, 3) := by decide +kernel
theorem dX6_gameValue_38 : decode cX6_gameValue 38 = .ok (.if_icmp .gt 114, 3) := by decide +kernel
theorem dX6_gameValue_41 : decode cX6_gameValue 41 = .ok (.aload_n 0, 1) := by decide +kernel
theorem dX6_gameValue_42 : decode cX6_gameValue 42 = .ok (.getfield 20, 3) := by decide +kernel
theorem dX6_gameValue_45 : decode cX6_gameValue 45 = .ok (.iload 6, 2) := by decide +kernel
theorem dX6_gameValue_47 : decode cX6_gameValue 47 = .ok (.invokevirtual 34, 3) := by decide +kernel
theorem dX6_gameValue_50 : decode cX6_gameValue 50 = .ok (.istore 7, 2) := by decide +kernel
theorem dX6_gameValue_52 : decode cX6_gameValue 52 = .ok (.aload_n 0, 1) := by decide +kernel
theorem dX6_gameValue_53 : decode cX6_gameValue 53 = .ok (.getfield 20, 3) := by decide +kernel
theorem dX6_gameValue_56 : decode cX6_gameValue 56 = .ok (.invokevirtual 24, 3) := by decide +kernel
theorem dX6_gameValue_59 : decode cX6_gameValue 59 = .ok (.istore 8, 2) := by decide +kernel
theorem dX6_gameValue_61 : decode cX6_gameValue 61 = .ok (.iload 8, 2) := by decide +kernel
theorem dX6_gameValue_63 : decode cX6_gameValue 63 = .ok (.iload 5, 2) := by decide +kernel
theorem dX6_gameValue_65 : decode cX6_gameValue 65 = .ok (.if_icmp .eq 64, 3) := by decide +kernel
theorem dX6_gameValue_68 : decode cX6_gameValue 68 = .ok (.iload 7, 2) := by decide +kernel
theorem dX6_gameValue_70 : decode cX6_gameValue 70 = .ok (.aload_n 0, 1) := by decide +kernel
theorem dX6_gameValue_71 : decode cX6_gameValue 71 = .ok (.iload_n 1, 1) := by decide +kernel
theorem dX6_gameValue_72 : decode cX6_gameValue 72 = .ok (.iconst 1, 1) := by decide +kernel
theorem dX6_gameValue_73 : decode cX6_gameValue 73 = .ok (.isub, 1) := by decide +kernel
theorem dX6_gameValue_74 : decode cX6_gameValue 74 = .ok (.iload_n 2, 1) := by decide +kernel
theorem dX6_gameValue_75 : decode cX6_gameValue 75 = .ok (.ifCond .ne 7, 3) := by decide +kernel
theorem dX6_gameValue_78 : decode cX6_gameValue 78 = .ok (.iconst 1, 1) := by decide +kernel
theorem dX6_gameValue_79 : decode cX6_gameValue 79 = .ok (.goto 4, 3) := by decide +kernel
theorem dX6_gameValue_82 : decode cX6_gameValue 82 = .ok (.iconst 0, 1) := by decide +kernel
theorem dX6_gameValue_83 : decode cX6_gameValue 83 = .ok (.invokevirtual 70, 3) := by decide +kernel
theorem dX6_gameValue_86 : decode cX6_gameValue 86 = .ok (.iadd, 1) := by decide +kernel
theorem dX6_gameValue_87 : decode cX6_gameValue 87 = .ok (.istore 9, 2) := by decide +kernel
theorem dX6_gameValue_89 : decode cX6_gameValue 89 = .ok (.iload 6, 2) := by decide +kernel
theorem dX6_gameValue_91 : decode cX6_gameValue 91 = .ok (.ifCond .eq 24, 3) := by decide +kernel
theorem dX6_gameValue_94 : decode cX6_gameValue 94 = .ok (.iload_n 2, 1) := by decide +kernel
theorem dX6_gameValue_95 : decode cX6_gameValue 95 = .ok (.ifCond .eq 13, 3) := by decide +kernel
theorem dX6_gameValue_98 : decode cX6_gameValue 98 = .ok (.iload 9, 2) := by decide +kernel
theorem dX6_gameValue_100 : decode cX6_gameValue 100 = .ok (.iload 4, 2) := by decide +kernel
theorem dX6_gameValue_102 : decode cX6_gameValue 102 = .ok (.if_icmp .le 27, 3) := by decide +kernel
theorem dX6_gameValue_105 : decode cX6_gameValue 105 = .ok (.goto 10, 3) := by decide +kernel
theorem dX6_gameValue_108 : decode cX6_gameValue 108 = .ok (.iload 9, 2) := by decide +kernel
theorem dX6_gameValue_110 : decode cX6_gameValue 110 = .ok (.iload 4, 2) := by decide +kernel
theorem dX6_gameValue_112 : decode cX6_gameValue 112 = .ok (.if_icmp .ge 17, 3) := by decide +kernel
theorem dX6_gameValue_115 : decode cX6_gameValue 115 = .ok (.iload 9, 2) := by decide +kernel
theorem dX6_gameValue_117 : decode cX6_gameValue 117 = .ok (.istore 4, 2) := by decide +kernel
theorem dX6_gameValue_119 : decode cX6_gameValue 119 = .ok (.aload_n 0, 1) := by decide +kernel
theorem dX6_gameValue_120 : decode cX6_gameValue 120 = .ok (.getfield 17, 3) := by decide +kernel
theorem dX6_gameValue_123 : decode cX6_gameValue 123 = .ok (.iload_n 1, 1) := by decide +kernel
theorem dX6_gameValue_124 : decode cX6_gameValue 124 = .ok (.aaload, 1) := by decide +kernel
theorem dX6_gameValue_125 : decode cX6_gameValue 125 = .ok (.iconst 0, 1) := by decide +kernel
theorem dX6_gameValue_126 : decode cX6_gameValue 126 = .ok (.iload 6, 2) := by decide +kernel
theorem dX6_gameValue_128 : decode cX6_gameValue 128 = .ok (.iastore, 1) := by decide +kernel
theorem dX6_gameValue_129 : decode cX6_gameValue 129 = .ok (.iload 6, 2) := by decide +kernel
theorem dX6_gameValue_131 : decode cX6_gameValue 131 = .ok (.ifCond .ne 7, 3) := by decide +kernel
theorem dX6_gameValue_134 : decode cX6_gameValue 134 = .ok (.iload 8, 2) := by decide +kernel
theorem dX6_gameValue_136 : decode cX6_gameValue 136 = .ok (.istore 5, 2) := by decide +kernel
theorem dX6_gameValue_138 : decode cX6_gameValue 138 = .ok (.aload_n 0, 1) := by decide +kernel
theorem dX6_gameValue_139 : decode cX6_gameValue 139 = .ok (.getfield 20, 3) := by decide +kernel
theorem dX6_gameValue_142 : decode cX6_gameValue 142 = .ok (.iload_n 3, 1) := by decide +kernel
theorem dX6_gameValue_143 : decode cX6_gameValue 143 = .ok (.invokevirtual 45, 3) := by decide +kernel
theorem dX6_gameValue_146 : decode cX6_gameValue 146 = .ok (.iinc 6 1, 3) := by decide +kernel
theorem dX6_gameValue_149 : decode cX6_gameValue 149 = .ok (.goto (-120), 3) := by decide +kernel
theorem dX6_gameValue_152 : decode cX6_gameValue 152 = .ok (.iload 4, 2) := by decide +kernel
theorem dX6_gameValue_154 : decode cX6_gameValue 154 = .ok (.ireturn, 1) := by decide +kernel
theorem dX7_init_0 : decode cX7_init 0 = .ok (.aload_n 0, 1) := by decide +kernel
theorem dX7_init_1 : decode cX7_init 1 = .ok (.invokespecial 3, 3) := by decide +kernel
theorem dX7_init_4 : decode cX7_init 4 = .ok (.aload_n 0, 1) := by decide +kernel
theorem dX7_init_5 : decode cX7_init 5 = .ok (.new 9, 3) := by decide +kernel
theorem dX7_init_8 : decode cX7_init 8 = .ok (.dup, 1) := by decide +kernel
theorem dX7_init_9 : decode cX7_init 9 = .ok (.invokespecial 11, 3) := by decide +kernel
theorem dX7_init_12 : decode cX7_init 12 = .ok (.putfield 12, 3) := by decide +kernel
theorem dX7_init_15 : decode cX7_init 15 = .ok (.aload_n 0, 1) := by decide +kernel
theorem dX7_init_16 : decode cX7_init 16 = .ok (.sipush 200, 3) := by decide +kernel
theorem dX7_init_19 : decode cX7_init 19 = .ok (.newarray .int, 2) := by decide +kernel
theorem dX7_init_21 : decode cX7_init 21 = .ok (.putfield 18, 3) := by decide +kernel
theorem dX7_init_24 : decode cX7_init 24 = .ok (.aload_n 0, 1) := by decide +kernel
theorem dX7_init_25 : decode cX7_init 25 = .ok (.sipush 200, 3) := by decide +kernel
theorem dX7_init_28 : decode cX7_init 28 = .ok (.newarray .int, 2) := by decide +kernel
theorem dX7_init_30 : decode cX7_init 30 = .ok (.putfield 22, 3) := by decide +kernel
theorem dX7_init_33 : decode cX7_init 33 = .ok (.aload_n 0, 1) := by decide +kernel
theorem dX7_init_34 : decode cX7_init 34 = .ok (.sipush 200, 3) := by decide +kernel
theorem dX7_init_37 : decode cX7_init 37 = .ok (.newarray .int, 2) := by decide +kernel
theorem dX7_init_39 : decode cX7_init 39 = .ok (.putfield 25, 3) := by decide +kernel
theorem dX7_init_42 : decode cX7_init 42 = .ok (.return_, 1) := by decide +kernel
theorem dX7_scan_0 : decode cX7_scan 0 = .ok (.aload_n 0, 1) := by decide +kernel
theorem dX7_scan_1 : decode cX7_scan 1 = .ok (.iconst 0, 1) := by decide +kernel
theorem dX7_scan_2 : decode cX7_scan 2 = .ok (.putfield 28, 3) := by decide +kernel
theorem dX7_scan_5 : decode cX7_scan 5 = .ok (.aload_n 0, 1) := by decide +kernel
theorem dX7_scan_6 : decode cX7_scan 6 = .ok (.iload_n 2, 1) := by decide +kernel
theorem dX7_scan_7 : decode cX7_scan 7 = .ok (.putfield 32, 3) := by decide +kernel
theorem dX7_scan_10 : decode cX7_scan 10 = .ok (.iconst 0, 1) := by decide +kernel
theorem dX7_scan_11 : decode cX7_scan 11 = .ok (.istore_n 3, 1) := by decide +kernel
theorem dX7_scan_12 : decode cX7_scan 12 = .ok (.iload_n 3, 1) := by decide +kernel
theorem dX7_scan_13 : decode cX7_scan 13 = .ok (.iload_n 2, 1) := by decide +kernel
theorem dX7_scan_14 : decode cX7_scan 14 = .ok (.if_icmp .ge 146, 3) := by decide +kernel
theorem dX7_scan_17 : decode cX7_scan 17 = .ok (.iload_n 3, 1) := by decide +kernel
theorem dX7_scan_18 : decode cX7_scan 18 = .ok (.iconst 1, 1) := by decide +kernel
theorem dX7_scan_19 : decode cX7_scan 19 = .ok (.iadd, 1) := by decide +kernel
theorem dX7_scan_20 : decode cX7_scan 20 = .ok (.istore 4, 2) := by decide +kernel
theorem dX7_scan_22 : decode cX7_scan 22 = .ok (.aload_n 1, 1) := by decide +kernel
theorem dX7_scan_23 : decode cX7_scan 23 = .ok (.iload_n 3, 1) := by decide +kernel
theorem dX7_scan_24 : decode cX7_scan 24 = .ok (.baload, 1) := by decide +kernel
theorem dX7_scan_25 : decode cX7_scan 25 = .ok (.invokestatic 35, 3) := by decide +kernel
theorem dX7_scan_28 : decode cX7_scan 28 = .ok (.ifCond .eq 41, 3) := by decide +kernel
theorem dX7_scan_31 : decode cX7_scan 31 = .ok (.iload 4, 2) := by decide +kernel
theorem dX7_scan_33 : decode cX7_scan 33 = .ok (.iload_n 2, 1) := by decide +kernel
theorem dX7_scan_34 : decode cX7_scan 34 = .ok (.if_icmp .ge 19, 3) := by decide +kernel
theorem dX7_scan_37 : decode cX7_scan 37 = .ok (.aload_n 1, 1) := by decide +kernel
theorem dX7_scan_38 : decode cX7_scan 38 = .ok (.iload 4, 2) := by decide +kernel
theorem dX7_scan_40 : decode cX7_scan 40 = .ok (.baload, 1) := by decide +kernel
theorem dX7_scan_41 : decode cX7_scan 41 = .ok (.invokestatic 35, 3) := by decide +kernel
theorem dX7_scan_44 : decode cX7_scan 44 = .ok (.ifCond .eq 9, 3) := by decide +kernel
theorem dX7_scan_47 : decode cX7_scan 47 = .ok (.iinc 4 1, 3) := by decide +kernel
theorem dX7_scan_50 : decode cX7_scan 50 = .ok (.goto (-19), 3) := by decide +kernel
theorem dX7_scan_53 : decode cX7_scan 53 = .ok (.aload_n 0, 1) := by decide +kernel
theorem dX7_scan_54 : decode cX7_scan 54 = .ok (.aload_n 1, 1) := by decide +kernel
theorem dX7_scan_55 : decode cX7_scan 55 = .ok (.iload_n 3, 1) := by decide +kernel
theorem dX7_scan_56 : decode cX7_scan 56 = .ok (.iload 4, 2) := by decide +kernel
theorem dX7_scan_58 : decode cX7_scan 58 = .ok (.invokestatic 39, 3) := by decide +kernel
theorem dX7_scan_61 : decode cX7_scan 61 = .ok (.iload_n 3, 1) := by decide +kernel
theorem dX7_scan_62 : decode cX7_scan 62 = .ok (.iconst 0, 1) := by decide +kernel
theorem dX7_scan_63 : decode cX7_scan 63 = .ok (.invokevirtual 43, 3) := by decide +kernel
theorem dX7_scan_66 : decode cX7_scan 66 = .ok (.goto 88, 3) := by decide +kernel
theorem dX7_scan_69 : decode cX7_scan 69 = .ok (.aload_n 1, 1) := by decide +kernel
theorem dX7_scan_70 : decode cX7_scan 70 = .ok (.iload_n 3, 1) := by decide +kernel
theorem dX7_scan_71 : decode cX7_scan 71 = .ok (.baload, 1) := by decide +kernel
theorem dX7_scan_72 : decode cX7_scan 72 = .ok (.invokestatic 47, 3) := by decide +kernel
theorem dX7_scan_75 : decode cX7_scan 75 = .ok (.ifCond .eq 55, 3) := by decide +kernel
theorem dX7_scan_78 : decode cX7_scan 78 = .ok (.iload 4, 2) := by decide +kernel
theorem dX7_scan_80 : decode cX7_scan 80 = .ok (.iload_n 2, 1) := by decide +kernel
theorem dX7_scan_81 : decode cX7_scan 81 = .ok (.if_icmp .ge 19, 3) := by decide +kernel
theorem dX7_scan_84 : decode cX7_scan 84 = .ok (.aload_n 1, 1) := by decide +kernel
theorem dX7_scan_85 : decode cX7_scan 85 = .ok (.iload 4, 2) := by decide +kernel
theorem dX7_scan_87 : decode cX7_scan 87 = .ok (.baload, 1) := by decide +kernel
theorem dX7_scan_88 : decode cX7_scan 88 = .ok (.invokestatic 47, 3) := by decide +kernel
theorem dX7_scan_91 : decode cX7_scan 91 = .ok (.ifCond .eq 9, 3) := by decide +kernel
theorem dX7_scan_94 : decode cX7_scan 94 = .ok (.iinc 4 1, 3) := by decide +kernel
theorem dX7_scan_97 : decode cX7_scan 97 = .ok (.goto (-19), 3) := by decide +kernel
theorem dX7_scan_100 : decode cX7_scan 100 = .ok (.aload_n 0, 1) := by decide +kernel
theorem dX7_scan_101 : decode cX7_scan 101 = .ok (.iload 4, 2) := by decide +kernel
theorem dX7_scan_103 : decode cX7_scan 103 = .ok (.iload_n 3, 1) := by decide +kernel
theorem dX7_scan_104 : decode cX7_scan 104 = .ok (.isub, 1) := by decide +kernel
theorem dX7_scan_105 : decode cX7_scan 105 = .ok (.iconst 4, 1) := by decide +kernel
theorem dX7_scan_106 : decode cX7_scan 106 = .ok (.if_icmp .le 8, 3) := by decide +kernel
theorem dX7_scan_109 : decode cX7_scan 109 = .ok (.bipush 18, 2) := by decide +kernel
theorem dX7_scan_111 : decode cX7_scan 111 = .ok (.goto 5, 3) := by decide +kernel
theorem dX7_scan_114 : decode cX7_scan 114 = .ok (.bipush 19, 2) := by decide +kernel
theorem dX7_scan_116 : decode cX7_scan 116 = .ok (.iload_n 3, 1) := by decide +kernel
theorem dX7_scan_117 : decode cX7_scan 117 = .ok (.aload_n 1, 1) := by decide +kernel
theorem dX7_scan_118 : decode cX7_scan 118 = .ok (.iload_n 3, 1) := by decide +kernel
theorem dX7_scan_119 : decode cX7_scan 119 = .ok (.iload 4, 2) := by decide +kernel
theorem dX7_scan_121 : decode cX7_scan 121 = .ok (.invokestatic 50, 3) := by decide +kernel
theorem dX7_scan_124 : decode cX7_scan 124 = .ok (.invokevirtual 43, 3) := by decide +kernel
theorem dX7_scan_127 : decode cX7_scan 127 = .ok (.goto 27, 3) := by decide +kernel
theorem dX7_scan_130 : decode cX7_scan 130 = .ok (.aload_n 1, 1) := by decide +kernel
theorem dX7_scan_131 : decode cX7_scan 131 = .ok (.iload_n 3, 1) := by decide +kernel
theorem dX7_scan_132 : decode cX7_scan 132 = .ok (.baload, 1) := by decide +kernel
theorem dX7_scan_133 : decode cX7_scan 133 = .ok (.bipush 32, 2) := by decide +kernel
theorem dX7_scan_135 : decode cX7_scan 135 = .ok (.if_icmp .eq 19, 3) := by decide +kernel
theorem dX7_scan_138 : decode cX7_scan 138 = .ok (.aload_n 0, 1) := by decide +kernel
theorem dX7_scan_139 : decode cX7_scan 139 = .ok (.bipush 100, 2) := by decide +kernel
theorem dX7_scan_141 : decode cX7_scan 141 = .ok (.aload_n 1, 1) := by decide +kernel
theorem dX7_scan_142 : decode cX7_scan 142 = .ok (.iload_n 3, 1) := by decide +kernel
theorem dX7_scan_143 : decode cX7_scan 143 = .ok (.baload, 1) := by decide +kernel
theorem dX7_scan_144 : decode cX7_scan 144 = .ok (.sipush 255, 3) := by decide +kernel
theorem dX7_scan_147 : decode cX7_scan 147 = .ok (.iand, 1) := by decide +kernel
theorem dX7_scan_148 : decode cX7_scan 148 = .ok (.iadd, 1) := by decide +kernel
theorem dX7_scan_149 : decode cX7_scan 149 = .ok (.iload_n 3, 1) := by decide +kernel
theorem dX7_scan_150 : decode cX7_scan 150 = .ok (.iconst 0, 1) := by decide +kernel
theorem dX7_scan_151 : decode cX7_scan 151 = .ok (.invokevirtual 43, 3) := by decide +kernel
theorem dX7_scan_154 : decode cX7_scan 154 = .ok (.iload 4, 2) := by decide +kernel
theorem dX7_scan_156 : decode cX7_scan 156 = .ok (.istore_n 3, 1) := by decide +kernel
theorem dX7_scan_157 : decode cX7_scan 157 = .ok (.goto (-145), 3) := by decide +kernel
theorem dX7_scan_160 : decode cX7_scan 160 = .ok (.return_, 1) := by decide +kernel
theorem dX7_note_0 : decode cX7_note 0 = .ok (.aload_n 0, 1) := by decide +kernel
theorem dX7_note_1 : decode cX7_note 1 = .ok (.getfield 28, 3) := by decide +kernel
theorem dX7_note_4 : decode cX7_note 4 = .ok (.sipush 200, 3) := by decide +kernel
theorem dX7_note_7 : decode cX7_note 7 = .ok (.if_icmp .ge 43, 3) := by decide +kernel
theorem dX7_note_10 : decode cX7_note 10 = .ok (.aload_n 0, 1) := by decide +kernel
theorem dX7_note_11 : decode cX7_note 11 = .ok (.getfield 18, 3) := by decide +kernel
theorem dX7_note_14 : decode cX7_note 14 = .ok (.aload_n 0, 1) := by decide +kernel
theorem dX7_note_15 : decode cX7_note 15 = .ok (.getfield 28, 3) := by decide +kernel
theorem dX7_note_18 : decode cX7_note 18 = .ok (.iload_n 1, 1) := by decide +kernel
theorem dX7_note_19 : decode cX7_note 19 = .ok (.iastore, 1) := by decide +kernel
theorem dX7_note_20 : decode cX7_note 20 = .ok (.aload_n 0, 1) := by decide +kernel
theorem dX7_note_21 : decode cX7_note 21 = .ok (.getfield 22, 3) := by decide +kernel
theorem dX7_note_24 : decode cX7_note 24 = .ok (.aload_n 0, 1) := by decide +kernel
theorem dX7_note_25 : decode cX7_note 25 = .ok (.getfield 28, 3) := by decide +kernel
theorem dX7_note_28 : decode cX7_note 28 = .ok (.iload_n 2, 1) := by decide +kernel
theorem dX7_note_29 : decode cX7_note 29 = .ok (.iastore, 1) := by decide +kernel
theorem dX7_note_30 : decode cX7_note 30 = .ok (.aload_n 0, 1) := by decide +kernel
theorem dX7_note_31 : decode cX7_note 31 = .ok (.getfield 25, 3) := by decide +kernel
theorem dX7_note_34 : decode cX7_note 34 = .ok (.aload_n 0, 1) := by decide +kernel
theorem dX7_note_35 : decode cX7_note 35 = .ok (.getfield 28, 3) := by decide +kernel
theorem dX7_note_38 : decode cX7_note 38 = .ok (.iload_n 3, 1) := by decide +kernel
theorem dX7_note_39 : decode cX7_note 39 = .ok (.iastore, 1) := by decide +kernel
theorem dX7_note_40 : decode cX7_note 40 = .ok (.aload_n 0, 1) := by decide +kernel
theorem dX7_note_41 : decode cX7_note 41 = .ok (.dup, 1) := by decide +kernel
theorem dX7_note_42 : decode cX7_note 42 = .ok (.getfield 28, 3) := by decide +kernel
theorem dX7_note_45 : decode cX7_note 45 = .ok (.iconst 1, 1) := by decide +kernel
theorem dX7_note_46 : decode cX7_note 46 = .ok (.iadd, 1) := by decide +kernel
theorem dX7_note_47 : decode cX7_note 47 = .ok (.putfield 28, 3) := by decide +kernel
theorem dX7_note_50 : decode cX7_note 50 = .ok (.return_, 1) := by decide +kernel
theorem dX7_isLetter_0 : decode cX7_isLetter 0 = .ok (.iload_n 0, 1) := by decide +kernel
theorem dX7_isLetter_1 : decode cX7_isLetter 1 = .ok (.bipush 97, 2) := by decide +kernel
theorem dX7_isLetter_3 : decode cX7_isLetter 3 = .ok (.if_icmp .lt 13, 3) := by decide +kernel
theorem dX7_isLetter_6 : decode cX7_isLetter 6 = .ok (.iload_n 0, 1) := by decide +kernel
theorem dX7_isLetter_7 : decode cX7_isLetter 7 = .ok (.bipush 122, 2) := by decide +kernel
theorem dX7_isLetter_9 : decode cX7_isLetter 9 = .ok (.if_icmp .gt 7, 3) := by decide +kernel
theorem dX7_isLetter_12 : decode cX7_isLetter 12 = .ok (.iconst 1, 1) := by decide +kernel
theorem dX7_isLetter_13 : decode cX7_isLetter 13 = .ok (.goto 4, 3) := by decide +kernel
theorem dX7_isLetter_16 : decode cX7_isLetter 16 = .ok (.iconst 0, 1) := by decide +kernel
theorem dX7_isLetter_17 : decode cX7_isLetter 17 = .ok (.ireturn, 1) := by decide +kernel
theorem dX7_isDigit_0 : decode cX7_isDigit 0 = .ok (.iload_n 0, 1) := by decide +kernel
theorem dX7_isDigit_1 : decode cX7_isDigit 1 = .ok (.bipush 48, 2) := by decide +kernel
theorem dX7_isDigit_3 : decode cX7_isDigit 3 = .ok (.if_icmp .lt 13, 3) := by decide +kernel
theorem dX7_isDigit_6 : decode cX7_isDigit 6 = .ok (.iload_n 0, 1) := by decide +kernel
theorem dX7_isDigit_7 : decode cX7_isDigit 7 = .ok (.bipush 57, 2) := by decide +kernel
theorem dX7_isDigit_9 : decode cX7_isDigit 9 = .ok (.if_icmp .gt 7, 3) := by decide +kernel
theorem dX7_isDigit_12 : decode cX7_isDigit 12 = .ok (.iconst 1, 1) := by decide +kernel
theorem dX7_isDigit_13 : decode cX7_isDigit 13 = .ok (.goto 4, 3) := by decide +kernel
theorem dX7_isDigit_16 : decode cX7_isDigit 16 = .ok (.iconst 0, 1) := by decide +kernel
theorem dX7_isDigit_17 : decode cX7_isDigit 17 = .ok (.ireturn, 1) := by decide +kernel
theorem dX7_numberOf_0 : decode cX7_numberOf 0 = .ok (.iconst 0, 1) := by decide +kernel
theorem dX7_numberOf_1 : decode cX7_numberOf 1 = .ok (.istore_n 3, 1) := by decide +kernel
theorem dX7_numberOf_2 : decode cX7_numberOf 2 = .ok (.iload_n 1, 1) := by decide +kernel
theorem dX7_numberOf_3 : decode cX7_numberOf 3 = .ok (.istore 4, 2) := by decide +kernel
theorem dX7_numberOf_5 : decode cX7_numberOf 5 = .ok (.iload 4, 2) := by decide +kernel
theorem dX7_numberOf_7 : decode cX7_numberOf 7 = .ok (.iload_n 2, 1) := by decide +kernel
theorem dX7_numberOf_8 : decode cX7_numberOf 8 = .ok (.if_icmp .ge 30, 3) := by decide +kernel
theorem dX7_numberOf_11 : decode cX7_numberOf 11 = .ok (.iload 4, 2) := by decide +kernel
theorem dX7_numberOf_13 : decode cX7_numberOf 13 = .ok (.iload_n 1, 1) := by decide +kernel
theorem dX7_numberOf_14 : decode cX7_numberOf 14 = .ok (.iconst 4, 1) := by decide +kernel
theorem dX7_numberOf_15 : decode cX7_numberOf 15 = .ok (.iadd, 1) := by decide +kernel
theorem dX7_numberOf_16 : decode cX7_numberOf 16 = .ok (.if_icmp .ge 22, 3) := by decide +kernel
theorem dX7_numberOf_19 : decode cX7_numberOf 19 = .ok (.iload_n 3, 1) := by decide +kernel
theorem dX7_numberOf_20 : decode cX7_numberOf 20 = .ok (.bipush 10, 2) := by decide +kernel
theorem dX7_numberOf_22 : decode cX7_numberOf 22 = .ok (.imul, 1) := by decide +kernel
theorem dX7_numberOf_23 : decode cX7_numberOf 23 = .ok (.aload_n 0, 1) := by decide +kernel
theorem dX7_numberOf_24 : decode cX7_numberOf 24 = .ok (.iload 4, 2) := by decide +kernel
theorem dX7_numberOf_26 : decode cX7_numberOf 26 = .ok (.baload, 1) := by decide +kernel
theorem dX7_numberOf_27 : decode cX7_numberOf 27 = .ok (.iadd, 1) := by decide +kernel
theorem dX7_numberOf_28 : decode cX7_numberOf 28 = .ok (.bipush 48, 2) := by decide +kernel
theorem dX7_numberOf_30 : decode cX7_numberOf 30 = .ok (.isub, 1) := by decide +kernel
theorem dX7_numberOf_31 : decode cX7_numberOf 31 = .ok (.istore_n 3, 1) := by decide +kernel
theorem dX7_numberOf_32 : decode cX7_numberOf 32 = .ok (.iinc 4 1, 3) := by decide +kernel
theorem dX7_numberOf_35 : decode cX7_numberOf 35 = .ok (.goto (-30), 3) := by decide +kernel
theorem dX7_numberOf_38 : decode cX7_numberOf 38 = .ok (.iload_n 3, 1) := by decide +kernel
theorem dX7_numberOf_39 : decode cX7_numberOf 39 = .ok (.ireturn, 1) := by decide +kernel
theorem dX7_wordOf_0 : decode cX7_wordOf 0 = .ok (.iconst 0, 1) := by decide +kernel
theorem dX7_wordOf_1 : decode cX7_wordOf 1 = .ok (.istore_n 3, 1) := by decide +kernel
theorem dX7_wordOf_2 : decode cX7_wordOf 2 = .ok (.iload_n 3, 1) := by decide +kernel
theorem dX7_wordOf_3 : decode cX7_wordOf 3 = .ok (.bipush 18, 2) := by decide +kernel
theorem dX7_wordOf_5 : decode cX7_wordOf 5 = .ok (.if_icmp .ge 24, 3) := by decide +kernel
theorem dX7_wordOf_8 : decode cX7_wordOf 8 = .ok (.iload_n 3, 1) := by decide +kernel
theorem dX7_wordOf_9 : decode cX7_wordOf 9 = .ok (.invokestatic 53, 3) := by decide +kernel
theorem dX7_wordOf_12 : decode cX7_wordOf 12 = .ok (.aload_n 0, 1) := by decide +kernel
theorem dX7_wordOf_13 : decode cX7_wordOf 13 = .ok (.iload_n 1, 1) := by decide +kernel
theorem dX7_wordOf_14 : decode cX7_wordOf 14 = .ok (.iload_n 2, 1) := by decide +kernel
theorem dX7_wordOf_15 : decode cX7_wordOf 15 = .ok (.invokestatic 57, 3) := by decide +kernel
theorem dX7_wordOf_18 : decode cX7_wordOf 18 = .ok (.ifCond .eq 5, 3) := by decide +kernel
theorem dX7_wordOf_21 : decode cX7_wordOf 21 = .ok (.iload_n 3, 1) := by decide +kernel
theorem dX7_wordOf_22 : decode cX7_wordOf 22 = .ok (.ireturn, 1) := by decide +kernel
theorem dX7_wordOf_23 : decode cX7_wordOf 23 = .ok (.iinc 3 1, 3) := by decide +kernel
theorem dX7_wordOf_26 : decode cX7_wordOf 26 = .ok (.goto (-24), 3) := by decide +kernel
theorem dX7_wordOf_29 : decode cX7_wordOf 29 = .ok (.bipush 18, 2) := by decide +kernel
theorem dX7_wordOf_31 : decode cX7_wordOf 31 = .ok (.ireturn, 1) := by decide +kernel
theorem dX7_isWord_0 : decode cX7_isWord 0 = .ok (.aload_n 0, 1) := by decide +kernel
theorem dX7_isWord_1 : decode cX7_isWord 1 = .ok (.invokevirtual 61, 3) := by decide +kernel
theorem dX7_isWord_4 : decode cX7_isWord 4 = .ok (.iload_n 3, 1) := by decide +kernel
theorem dX7_isWord_5 : decode cX7_isWord 5 = .ok (.iload_n 2, 1) := by decide +kernel
theorem dX7_isWord_6 : decode cX7_isWord 6 = .ok (.isub, 1) := by decide +kernel
theorem dX7_isWord_7 : decode cX7_isWord 7 = .ok (.if_icmp .eq 5, 3) := by decide +kernel
theorem dX7_isWord_10 : decode cX7_isWord 10 = .ok (.iconst 0, 1) := by decide +kernel
theorem dX7_isWord_11 : decode cX7_isWord 11 = .ok (.ireturn, 1) := by decide +kernel
theorem dX7_isWord_12 : decode cX7_isWord 12 = .ok (.iload_n 2, 1) := by decide +kernel
theorem dX7_isWord_13 : decode cX7_isWord 13 = .ok (.istore 4, 2) := by decide +kernel
theorem dX7_isWord_15 : decode cX7_isWord 15 = .ok (.iload 4, 2) := by decide +kernel
theorem dX7_isWord_17 : decode cX7_isWord 17 = .ok (.iload_n 3, 1) := by decide +kernel
theorem dX7_isWord_18 : decode cX7_isWord 18 = .ok (.if_icmp .ge 26, 3) := by decide +kernel
theorem dX7_isWord_21 : decode cX7_isWord 21 = .ok (.aload_n 0, 1) := by decide +kernel
theorem dX7_isWord_22 : decode cX7_isWord 22 = .ok (.iload 4, 2) := by decide +kernel
theorem dX7_isWord_24 : decode cX7_isWord 24 = .ok (.iload_n 2, 1) := by decide +kernel
theorem dX7_isWord_25 : decode cX7_isWord 25 = .ok (.isub, 1) := by decide +kernel
theorem dX7_isWord_26 : decode cX7_isWord 26 = .ok (.invokevirtual 67, 3) := by decide +kernel
theorem dX7_isWord_29 : decode cX7_isWord 29 = .ok (.aload_n 1, 1) := by decide +kernel
theorem dX7_isWord_30 : decode cX7_isWord 30 = .ok (.iload 4, 2) := by decide +kernel
theorem dX7_isWord_32 : decode cX7_isWord 32 = .ok (.baload, 1) := by decide +kernel
theorem dX7_isWord_33 : decode cX7_isWord 33 = .ok (.if_icmp .eq 5, 3) := by decide +kernel
theorem dX7_isWord_36 : decode cX7_isWord 36 = .ok (.iconst 0, 1) := by decide +kernel
theorem dX7_isWord_37 : decode cX7_isWord 37 = .ok (.ireturn, 1) := by decide +kernel
theorem dX7_isWord_38 : decode cX7_isWord 38 = .ok (.iinc 4 1, 3) := by decide +kernel
theorem dX7_isWord_41 : decode cX7_isWord 41 = .ok (.goto (-26), 3) := by decide +kernel
theorem dX7_isWord_44 : decode cX7_isWord 44 = .ok (.iconst 1, 1) := by decide +kernel
theorem dX7_isWord_45 : decode cX7_isWord 45 = .ok (.ireturn, 1) := by decide +kernel
theorem dX7_word_0 : decode cX7_word 0 = .ok (.iload_n 0, 1) := by decide +kernel
theorem dX7_word_1 : decode cX7_word 1 = .ok (.tableswitch 134 0 16 #[83, 86, 89, 92, 95, 98, 101, 104, 107, 110, 113, 116, 119, 122, 125, 128, 131], 83) := by decide +kernel
theorem dX7_word_84 : decode cX7_word 84 = .ok (.ldc 71, 2) := by decide +kernel
theorem dX7_word_86 : decode cX7_word 86 = .ok (.areturn, 1) := by decide +kernel
theorem dX7_word_87 : decode cX7_word 87 = .ok (.ldc 73, 2) := by decide +kernel
theorem dX7_word_89 : decode cX7_word 89 = .ok (.areturn, 1) := by decide +kernel
theorem dX7_word_90 : decode cX7_word 90 = .ok (.ldc 75, 2) := by decide +kernel
theorem dX7_word_92 : decode cX7_word 92 = .ok (.areturn, 1) := by decide +kernel
theorem dX7_word_93 : decode cX7_word 93 = .ok (.ldc 77, 2) := by decide +kernel
theorem dX7_word_95 : decode cX7_word 95 = .ok (.areturn, 1) := by decide +kernel
theorem dX7_word_96 : decode cX7_word 96 = .ok (.ldc 79, 2) := by decide +kernel
theorem dX7_word_98 : decode cX7_word 98 = .ok (.areturn, 1) := by decide +kernel
theorem dX7_word_99 : decode cX7_word 99 = .ok (.ldc 81, 2) := by decide +kernel
theorem dX7_word_101 : decode cX7_word 101 = .ok (.areturn, 1) := by decide +kernel
theorem dX7_word_102 : decode cX7_word 102 = .ok (.ldc 83, 2) := by decide +kernel
theorem dX7_word_104 : decode cX7_word 104 = .ok (.areturn, 1) := by decide +kernel
theorem dX7_word_105 : decode cX7_word 105 = .ok (.ldc 85, 2) := by decide +kernel
theorem dX7_word_107 : decode cX7_word 107 = .ok (.areturn, 1) := by decide +kernel
theorem dX7_word_108 : decode cX7_word 108 = .ok (.ldc 87, 2) := by decide +kernel
theorem dX7_word_110 : decode cX7_word 110 = .ok (.areturn, 1) := by decide +kernel
theorem dX7_word_111 : decode cX7_word 111 = .ok (.ldc 89, 2) := by decide +kernel
theorem dX7_word_113 : decode cX7_word 113 = .ok (.areturn, 1) := by decide +kernel
theorem dX7_word_114 : decode cX7_word 114 = .ok (.ldc 91, 2) := by decide +kernel
theorem dX7_word_116 : decode cX7_word 116 = .ok (.areturn, 1) := by decide +kernel
theorem dX7_word_117 : decode cX7_word 117 = .ok (.ldc 93, 2) := by decide +kernel
theorem dX7_word_119 : decode cX7_word 119 = .ok (.areturn, 1) := by decide +kernel
theorem dX7_word_120 : decode cX7_word 120 = .ok (.ldc 95, 2) := by decide +kernel
theorem dX7_word_122 : decode cX7_word 122 = .ok (.areturn, 1) := by decide +kernel
theorem dX7_word_123 : decode cX7_word 123 = .ok (.ldc 97, 2) := by decide +kernel
theorem dX7_word_125 : decode cX7_word 125 = .ok (.areturn, 1) := by decide +kernel
theorem dX7_word_126 : decode cX7_word 126 = .ok (.ldc 99, 2) := by decide +kernel
theorem dX7_word_128 : decode cX7_word 128 = .ok (.areturn, 1) := by decide +kernel
theorem dX7_word_129 : decode cX7_word 129 = .ok (.ldc 101, 2) := by decide +kernel
theorem dX7_word_131 : decode cX7_word 131 = .ok (.areturn, 1) := by decide +kernel
theorem dX7_word_132 : decode cX7_word 132 = .ok (.ldc 103, 2) := by decide +kernel
theorem dX7_word_134 : decode cX7_word 134 = .ok (.areturn, 1) := by decide +kernel
theorem dX7_word_135 : decode cX7_word 135 = .ok (.ldc 105, 2) := by decide +kernel
theorem dX7_word_137 : decode cX7_word 137 = .ok (.areturn, 1) := by decide +kernel
theorem dX7_readAll_0 : decode cX7_readAll 0 = .ok (.aload_n 0, 1) := by decide +kernel
theorem dX7_readAll_1 : decode cX7_readAll 1 = .ok (.getfield 12, 3) := by decide +kernel
theorem dX7_readAll_4 : decode cX7_readAll 4 = .ok (.invokevirtual 107, 3) := by decide +kernel
theorem dX7_readAll_7 : decode cX7_readAll 7 = .ok (.aload_n 0, 1) := by decide +kernel
theorem dX7_readAll_8 : decode cX7_readAll 8 = .ok (.iconst (-1), 1) := by decide +kernel
theorem dX7_readAll_9 : decode cX7_readAll 9 = .ok (.putfield 110, 3) := by decide +kernel
theorem dX7_readAll_12 : decode cX7_readAll 12 = .ok (.aload_n 0, 1) := by decide +kernel
theorem dX7_readAll_13 : decode cX7_readAll 13 = .ok (.invokevirtual 113, 3) := by decide +kernel
theorem dX7_readAll_16 : decode cX7_readAll 16 = .ok (.iconst 0, 1) := by decide +kernel
theorem dX7_readAll_17 : decode cX7_readAll 17 = .ok (.istore_n 1, 1) := by decide +kernel
theorem dX7_readAll_18 : decode cX7_readAll 18 = .ok (.iload_n 1, 1) := by decide +kernel
theorem dX7_readAll_19 : decode cX7_readAll 19 = .ok (.bipush 8, 2) := by decide +kernel
theorem dX7_readAll_21 : decode cX7_readAll 21 = .ok (.if_icmp .ge 27, 3) := by decide +kernel
theorem dX7_readAll_24 : decode cX7_readAll 24 = .ok (.aload_n 0, 1) := by decide +kernel
theorem dX7_readAll_25 : decode cX7_readAll 25 = .ok (.getfield 116, 3) := by decide +kernel
theorem dX7_readAll_28 : decode cX7_readAll 28 = .ok (.bipush 20, 2) := by decide +kernel
theorem dX7_readAll_30 : decode cX7_readAll 30 = .ok (.if_icmp .eq 18, 3) := by decide +kernel
theorem dX7_readAll_33 : decode cX7_readAll 33 = .ok (.aload_n 0, 1) := by decide +kernel
theorem dX7_readAll_34 : decode cX7_readAll 34 = .ok (.invokevirtual 119, 3) := by decide +kernel
theorem dX7_readAll_37 : decode cX7_readAll 37 = .ok (.ifCond .ne 5, 3) := by decide +kernel
theorem dX7_readAll_40 : decode cX7_readAll 40 = .ok (.iconst 0, 1) := by decide +kernel
theorem dX7_readAll_41 : decode cX7_readAll 41 = .ok (.ireturn, 1) := by decide +kernel
theorem dX7_readAll_42 : decode cX7_readAll 42 = .ok (.iinc 1 1, 3) := by decide +kernel
theorem dX7_readAll_45 : decode cX7_readAll 45 = .ok (.goto (-27), 3) := by decide +kernel
theorem dX7_readAll_48 : decode cX7_readAll 48 = .ok (.aload_n 0, 1) := by decide +kernel
theorem dX7_readAll_49 : decode cX7_readAll 49 = .ok (.getfield 116, 3) := by decide +kernel
theorem dX7_readAll_52 : decode cX7_readAll 52 = .ok (.bipush 20, 2) := by decide +kernel
theorem dX7_readAll_54 : decode cX7_readAll 54 = .ok (.if_icmp .ne 7, 3) := by decide +kernel
theorem dX7_readAll_57 : decode cX7_readAll 57 = .ok (.iconst 1, 1) := by decide +kernel
theorem dX7_readAll_58 : decode cX7_readAll 58 = .ok (.goto 4, 3) := by decide +kernel
theorem dX7_readAll_61 : decode cX7_readAll 61 = .ok (.iconst 0, 1) := by decide +kernel
theorem dX7_readAll_62 : decode cX7_readAll 62 = .ok (.ireturn, 1) := by decide +kernel
theorem dX7_advance_0 : decode cX7_advance 0 = .ok (.aload_n 0, 1) := by decide +kernel
theorem dX7_advance_1 : decode cX7_advance 1 = .ok (.dup, 1) := by decide +kernel
theorem dX7_advance_2 : decode cX7_advance 2 = .ok (.getfield 110, 3) := by decide +kernel
theorem dX7_advance_5 : decode cX7_advance 5 = .ok (.iconst 1, 1) := by decide +kernel
theorem dX7_advance_6 : decode cX7_advance 6 = .ok (.iadd, 1) := by decide +kernel
theorem dX7_advance_7 : decode cX7_advance 7 = .ok (.putfield 110, 3) := by decide +kernel
theorem dX7_advance_10 : decode cX7_advance 10 = .ok (.aload_n 0, 1) := by decide +kernel
theorem dX7_advance_11 : decode cX7_advance 11 = .ok (.getfield 110, 3) := by decide +kernel
theorem dX7_advance_14 : decode cX7_advance 14 = .ok (.ifCond .lt 18, 3) := by decide +kernel
theorem dX7_advance_17 : decode cX7_advance 17 = .ok (.aload_n 0, 1) := by decide +kernel
theorem dX7_advance_18 : decode cX7_advance 18 = .ok (.getfield 110, 3) := by decide +kernel
theorem dX7_advance_21 : decode cX7_advance 21 = .ok (.aload_n 0, 1) := by decide +kernel
theorem dX7_advance_22 : decode cX7_advance 22 = .ok (.getfield 28, 3) := by decide +kernel
theorem dX7_advance_25 : decode cX7_advance 25 = .ok (.if_icmp .ge 7, 3) := by decide +kernel
theorem dX7_advance_28 : decode cX7_advance 28 = .ok (.iconst 1, 1) := by decide +kernel
theorem dX7_advance_29 : decode cX7_advance 29 = .ok (.goto 4, 3) := by decide +kernel
theorem dX7_advance_32 : decode cX7_advance 32 = .ok (.iconst 0, 1) := by decide +kernel
theorem dX7_advance_33 : decode cX7_advance 33 = .ok (.istore_n 1, 1) := by decide +kernel
theorem dX7_advance_34 : decode cX7_advance 34 = .ok (.aload_n 0, 1) := by decide +kernel
theorem dX7_advance_35 : decode cX7_advance 35 = .ok (.iload_n 1, 1) := by decide +kernel
theorem dX7_advance_36 : decode cX7_advance 36 = .ok (.ifCond .eq 15, 3) := by decide +kernel
theorem dX7_advance_39 : decode cX7_advance 39 = .ok (.aload_n 0, 1) := by decide +kernel
theorem dX7_advance_40 : decode cX7_advance 40 = .ok (.getfield 18, 3) := by decide +kernel
theorem dX7_advance_43 : decode cX7_advance 43 = .ok (.aload_n 0, 1) := by decide +kernel
theorem dX7_advance_44 : decode cX7_advance 44 = .ok (.getfield 110, 3) := by decide +kernel
theorem dX7_advance_47 : decode cX7_advance 47 = .ok (.iaload, 1) := by decide +kernel
theorem dX7_advance_48 : decode cX7_advance 48 = .ok (.goto 5, 3) := by decide +kernel
theorem dX7_advance_51 : decode cX7_advance 51 = .ok (.bipush 20, 2) := by decide +kernel
theorem dX7_advance_53 : decode cX7_advance 53 = .ok (.putfield 116, 3) := by decide +kernel
theorem dX7_advance_56 : decode cX7_advance 56 = .ok (.aload_n 0, 1) := by decide +kernel
theorem dX7_advance_57 : decode cX7_advance 57 = .ok (.iload_n 1, 1) := by decide +kernel
theorem dX7_advance_58 : decode cX7_advance 58 = .ok (.ifCond .eq 15, 3) := by decide +kernel
theorem dX7_advance_61 : decode cX7_advance 61 = .ok (.aload_n 0, 1) := by decide +kernel
theorem dX7_advance_62 : decode cX7_advance 62 = .ok (.getfield 22, 3) := by decide +kernel
theorem dX7_advance_65 : decode cX7_advance 65 = .ok (.aload_n 0, 1) := by decide +kernel
theorem dX7_advance_66 : decode cX7_advance 66 = .ok (.getfield 110, 3) := by decide +kernel
theorem dX7_advance_69 : decode cX7_advance 69 = .ok (.iaload, 1) := by decide +kernel
theorem dX7_advance_70 : decode cX7_advance 70 = .ok (.goto 7, 3) := by decide +kernel
theorem dX7_advance_73 : decode cX7_advance 73 = .ok (.aload_n 0, 1) := by decide +kernel
theorem dX7_advance_74 : decode cX7_advance 74 = .ok (.getfield 32, 3) := by decide +kernel
theorem dX7_advance_77 : decode cX7_advance 77 = .ok (.putfield 123, 3) := by decide +kernel
theorem dX7_advance_80 : decode cX7_advance 80 = .ok (.return_, 1) := by decide +kernel
theorem dX7_readRule_0 : decode cX7_readRule 0 = .ok (.aload_n 0, 1) := by decide +kernel
theorem dX7_readRule_1 : decode cX7_readRule 1 = .ok (.getfield 116, 3) := by decide +kernel
theorem dX7_readRule_4 : decode cX7_readRule 4 = .ok (.ifCond .lt 11, 3) := by decide +kernel
theorem dX7_readRule_7 : decode cX7_readRule 7 = .ok (.aload_n 0, 1) := by decide +kernel
theorem dX7_readRule_8 : decode cX7_readRule 8 = .ok (.getfield 116, 3) := by decide +kernel
theorem dX7_readRule_11 : decode cX7_readRule 11 = .ok (.iconst 5, 1) := by decide +kernel
theorem dX7_readRule_12 : decode cX7_readRule 12 = .ok (.if_icmp .le 5, 3) := by decide +kernel
theorem dX7_readRule_15 : decode cX7_readRule 15 = .ok (.iconst 0, 1) := by decide +kernel
theorem dX7_readRule_16 : decode cX7_readRule 16 = .ok (.ireturn, 1) := by decide +kernel
theorem dX7_readRule_17 : decode cX7_readRule 17 = .ok (.aload_n 0, 1) := by decide +kernel
theorem dX7_readRule_18 : decode cX7_readRule 18 = .ok (.getfield 116, 3) := by decide +kernel
theorem dX7_readRule_21 : decode cX7_readRule 21 = .ok (.istore_n 1, 1) := by decide +kernel
theorem dX7_readRule_22 : decode cX7_readRule 22 = .ok (.aload_n 0, 1) := by decide +kernel
theorem dX7_readRule_23 : decode cX7_readRule 23 = .ok (.invokevirtual 113, 3) := by decide +kernel
theorem dX7_readRule_26 : decode cX7_readRule 26 = .ok (.aload_n 0, 1) := by decide +kernel
theorem dX7_readRule_27 : decode cX7_readRule 27 = .ok (.getfield 116, 3) := by decide +kernel
theorem dX7_readRule_30 : decode cX7_readRule 30 = .ok (.bipush 9, 2) := by decide +kernel
theorem dX7_readRule_32 : decode cX7_readRule 32 = .ok (.if_icmp .ne 17, 3) := by decide +kernel
theorem dX7_readRule_35 : decode cX7_readRule 35 = .ok (.aload_n 0, 1) := by decide +kernel
theorem dX7_readRule_36 : decode cX7_readRule 36 = .ok (.invokevirtual 113, 3) := by decide +kernel
theorem dX7_readRule_39 : decode cX7_readRule 39 = .ok (.aload_n 0, 1) := by decide +kernel
theorem dX7_readRule_40 : decode cX7_readRule 40 = .ok (.iconst 0, 1) := by decide +kernel
theorem dX7_readRule_41 : decode cX7_readRule 41 = .ok (.invokevirtual 126, 3) := by decide +kernel
theorem dX7_readRule_44 : decode cX7_readRule 44 = .ok (.ifCond .ne 5, 3) := by decide +kernel
theorem dX7_readRule_47 : decode cX7_readRule 47 = .ok (.iconst 0, 1) := by decide +kernel
theorem dX7_readRule_48 : decode cX7_readRule 48 = .ok (.ireturn, 1) := by decide +kernel
theorem dX7_readRule_49 : decode cX7_readRule 49 = .ok (.aload_n 0, 1) := by decide +kernel
theorem dX7_readRule_50 : decode cX7_readRule 50 = .ok (.getfield 116, 3) := by decide +kernel
theorem dX7_readRule_53 : decode cX7_readRule 53 = .ok (.bipush 6, 2) := by decide +kernel
theorem dX7_readRule_55 : decode cX7_readRule 55 = .ok (.if_icmp .lt 12, 3) := by decide +kernel
theorem dX7_readRule_58 : decode cX7_readRule 58 = .ok (.aload_n 0, 1) := by decide +kernel
theorem dX7_readRule_59 : decode cX7_readRule 59 = .ok (.getfield 116, 3) := by decide +kernel
theorem dX7_readRule_62 : decode cX7_readRule 62 = .ok (.bipush 8, 2) := by decide +kernel
theorem dX7_readRule_64 : decode cX7_readRule 64 = .ok (.if_icmp .le 5, 3) := by decide +kernel
theorem dX7_readRule_67 : decode cX7_readRule 67 = .ok (.iconst 0, 1) := by decide +kernel
theorem dX7_readRule_68 : decode cX7_readRule 68 = .ok (.ireturn, 1) := by decide +kernel
theorem dX7_readRule_69 : decode cX7_readRule 69 = .ok (.aload_n 0, 1) := by decide +kernel
theorem dX7_readRule_70 : decode cX7_readRule 70 = .ok (.getfield 116, 3) := by decide +kernel
theorem dX7_readRule_73 : decode cX7_readRule 73 = .ok (.bipush 6, 2) := by decide +kernel
theorem dX7_readRule_75 : decode cX7_readRule 75 = .ok (.isub, 1) := by decide +kernel
theorem dX7_readRule_76 : decode cX7_readRule 76 = .ok (.istore_n 2, 1) := by decide +kernel
theorem dX7_readRule_77 : decode cX7_readRule 77 = .ok (.aload_n 0, 1) := by decide +kernel
theorem dX7_readRule_78 : decode cX7_readRule 78 = .ok (.invokevirtual 113, 3) := by decide +kernel
theorem dX7_readRule_81 : decode cX7_readRule 81 = .ok (.aload_n 0, 1) := by decide +kernel
theorem dX7_readRule_82 : decode cX7_readRule 82 = .ok (.getfield 116, 3) := by decide +kernel
theorem dX7_readRule_85 : decode cX7_readRule 85 = .ok (.sipush 159, 3) := by decide +kernel
theorem dX7_readRule_88 : decode cX7_readRule 88 = .ok (.if_icmp .eq 5, 3) := by decide +kernel
theorem dX7_readRule_91 : decode cX7_readRule 91 = .ok (.iconst 0, 1) := by decide +kernel
theorem dX7_readRule_92 : decode cX7_readRule 92 = .ok (.ireturn, 1) := by decide +kernel
theorem dX7_readRule_93 : decode cX7_readRule 93 = .ok (.aload_n 0, 1) := by decide +kernel
theorem dX7_readRule_94 : decode cX7_readRule 94 = .ok (.invokevirtual 113, 3) := by decide +kernel
theorem dX7_readRule_97 : decode cX7_readRule 97 = .ok (.aload_n 0, 1) := by decide +kernel
theorem dX7_readRule_98 : decode cX7_readRule 98 = .ok (.getfield 12, 3) := by decide +kernel
theorem dX7_readRule_101 : decode cX7_readRule 101 = .ok (.iload_n 1, 1) := by decide +kernel
theorem dX7_readRule_102 : decode cX7_readRule 102 = .ok (.iload_n 2, 1) := by decide +kernel
theorem dX7_readRule_103 : decode cX7_readRule 103 = .ok (.invokevirtual 130, 3) := by decide +kernel
theorem dX7_readRule_106 : decode cX7_readRule 106 = .ok (.iconst 1, 1) := by decide +kernel
theorem dX7_readRule_107 : decode cX7_readRule 107 = .ok (.ireturn, 1) := by decide +kernel
theorem dX7_readCondition_0 : decode cX7_readCondition 0 = .ok (.iconst 1, 1) := by decide +kernel
theorem dX7_readCondition_1 : decode cX7_readCondition 1 = .ok (.istore_n 2, 1) := by decide +kernel
theorem dX7_readCondition_2 : decode cX7_readCondition 2 = .ok (.iconst 0, 1) := by decide +kernel
theorem dX7_readCondition_3 : decode cX7_readCondition 3 = .ok (.istore_n 3, 1) := by decide +kernel
theorem dX7_readCondition_4 : decode cX7_readCondition 4 = .ok (.iload_n 3, 1) := by decide +kernel
theorem dX7_readCondition_5 : decode cX7_readCondition 5 = .ok (.sipush 200, 3) := by decide +kernel
theorem dX7_readCondition_8 : decode cX7_readCondition 8 = .ok (.if_icmp .ge 58, 3) := by decide +kernel
theorem dX7_readCondition_11 : decode cX7_readCondition 11 = .ok (.iload_n 2, 1) := by decide +kernel
theorem dX7_readCondition_12 : decode cX7_readCondition 12 = .ok (.ifCond .eq 54, 3) := by decide +kernel
theorem dX7_readCondition_15 : decode cX7_readCondition 15 = .ok (.aload_n 0, 1) := by decide +kernel
theorem dX7_readCondition_16 : decode cX7_readCondition 16 = .ok (.iload_n 1, 1) := by decide +kernel
theorem dX7_readCondition_17 : decode cX7_readCondition 17 = .ok (.invokevirtual 134, 3) := by decide +kernel
theorem dX7_readCondition_20 : decode cX7_readCondition 20 = .ok (.ifCond .ne 5, 3) := by decide +kernel
theorem dX7_readCondition_23 : decode cX7_readCondition 23 = .ok (.iconst 0, 1) := by decide +kernel
theorem dX7_readCondition_24 : decode cX7_readCondition 24 = .ok (.ireturn, 1) := by decide +kernel
theorem dX7_readCondition_25 : decode cX7_readCondition 25 = .ok (.iload_n 3, 1) := by decide +kernel
theorem dX7_readCondition_26 : decode cX7_readCondition 26 = .ok (.ifCond .le 11, 3) := by decide +kernel
theorem dX7_readCondition_29 : decode cX7_readCondition 29 = .ok (.aload_n 0, 1) := by decide +kernel
theorem dX7_readCondition_30 : decode cX7_readCondition 30 = .ok (.getfield 12, 3) := by decide +kernel
theorem dX7_readCondition_33 : decode cX7_readCondition 33 = .ok (.iconst 2, 1) := by decide +kernel
theorem dX7_readCondition_34 : decode cX7_readCondition 34 = .ok (.invokevirtual 137, 3) := by decide +kernel
theorem dX7_readCondition_37 : decode cX7_readCondition 37 = .ok (.aload_n 0, 1) := by decide +kernel
theorem dX7_readCondition_38 : decode cX7_readCondition 38 = .ok (.getfield 116, 3) := by decide +kernel
theorem dX7_readCondition_41 : decode cX7_readCondition 41 = .ok (.bipush 10, 2) := by decide +kernel
theorem dX7_readCondition_43 : decode cX7_readCondition 43 = .ok (.if_icmp .ne 7, 3) := by decide +kernel
theorem dX7_readCondition_46 : decode cX7_readCondition 46 = .ok (.iconst 1, 1) := by decide +kernel
theorem dX7_readCondition_47 : decode cX7_readCondition 47 = .ok (.goto 4, 3) := by decide +kernel
theorem dX7_readCondition_50 : decode cX7_readCondition 50 = .ok (.iconst 0, 1) := by decide +kernel
theorem dX7_readCondition_51 : decode cX7_readCondition 51 = .ok (.istore_n 2, 1) := by decide +kernel
theorem dX7_readCondition_52 : decode cX7_readCondition 52 = .ok (.iload_n 2, 1) := by decide +kernel
theorem dX7_readCondition_53 : decode cX7_readCondition 53 = .ok (.ifCond .eq 7, 3) := by decide +kernel
theorem dX7_readCondition_56 : decode cX7_readCondition 56 = .ok (.aload_n 0, 1) := by decide +kernel
theorem dX7_readCondition_57 : decode cX7_readCondition 57 = .ok (.invokevirtual 113, 3) := by decide +kernel
theorem dX7_readCondition_60 : decode cX7_readCondition 60 = .ok (.iinc 3 1, 3) := by decide +kernel
theorem dX7_readCondition_63 : decode cX7_readCondition 63 = .ok (.goto (-59), 3) := by decide +kernel
theorem dX7_readCondition_66 : decode cX7_readCondition 66 = .ok (.iconst 1, 1) := by decide +kernel
theorem dX7_readCondition_67 : decode cX7_readCondition 67 = .ok (.ireturn, 1) := by decide +kernel
theorem dX7_readAlls_0 : decode cX7_readAlls 0 = .ok (.iconst 1, 1) := by decide +kernel
theorem dX7_readAlls_1 : decode cX7_readAlls 1 = .ok (.istore_n 2, 1) := by decide +kernel
theorem dX7_readAlls_2 : decode cX7_readAlls 2 = .ok (.iconst 0, 1) := by decide +kernel
theorem dX7_readAlls_3 : decode cX7_readAlls 3 = .ok (.istore_n 3, 1) := by decide +kernel
theorem dX7_readAlls_4 : decode cX7_readAlls 4 = .ok (.iload_n 3, 1) := by decide +kernel
theorem dX7_readAlls_5 : decode cX7_readAlls 5 = .ok (.sipush 200, 3) := by decide +kernel
theorem dX7_readAlls_8 : decode cX7_readAlls 8 = .ok (.if_icmp .ge 58, 3) := by decide +kernel
theorem dX7_readAlls_11 : decode cX7_readAlls 11 = .ok (.iload_n 2, 1) := by decide +kernel
theorem dX7_readAlls_12 : decode cX7_readAlls 12 = .ok (.ifCond .eq 54, 3) := by decide +kernel
theorem dX7_readAlls_15 : decode cX7_readAlls 15 = .ok (.aload_n 0, 1) := by decide +kernel
theorem dX7_readAlls_16 : decode cX7_readAlls 16 = .ok (.iload_n 1, 1) := by decide +kernel
theorem dX7_readAlls_17 : decode cX7_readAlls 17 = .ok (.invokevirtual 141, 3) := by decide +kernel
theorem dX7_readAlls_20 : decode cX7_readAlls 20 = .ok (.ifCond .ne 5, 3) := by decide +kernel
theorem dX7_readAlls_23 : decode cX7_readAlls 23 = .ok (.iconst 0, 1) := by decide +kernel
theorem dX7_readAlls_24 : decode cX7_readAlls 24 = .ok (.ireturn, 1) := by decide +kernel
theorem dX7_readAlls_25 : decode cX7_readAlls 25 = .ok (.iload_n 3, 1) := by decide +kernel
theorem dX7_readAlls_26 : decode cX7_readAlls 26 = .ok (.ifCond .le 11, 3) := by decide +kernel
theorem dX7_readAlls_29 : decode cX7_readAlls 29 = .ok (.aload_n 0, 1) := by decide +kernel
theorem dX7_readAlls_30 : decode cX7_readAlls 30 = .ok (.getfield 12, 3) := by decide +kernel
theorem dX7_readAlls_33 : decode cX7_readAlls 33 = .ok (.iconst 1, 1) := by decide +kernel
theorem dX7_readAlls_34 : decode cX7_readAlls 34 = .ok (.invokevirtual 137, 3) := by decide +kernel
theorem dX7_readAlls_37 : decode cX7_readAlls 37 = .ok (.aload_n 0, 1) := by decide +kernel
theorem dX7_readAlls_38 : decode cX7_readAlls 38 = .ok (.getfield 116, 3) := by decide +kernel
theorem dX7_readAlls_41 : decode cX7_readAlls 41 = .ok (.bipush 11, 2) := by decide +kernel
theorem dX7_readAlls_43 : decode cX7_readAlls 43 = .ok (.if_icmp .ne 7, 3) := by decide +kernel
theorem dX7_readAlls_46 : decode cX7_readAlls 46 = .ok (.iconst 1, 1) := by decide +kernel
theorem dX7_readAlls_47 : decode cX7_readAlls 47 = .ok (.goto 4, 3) := by decide +kernel
theorem dX7_readAlls_50 : decode cX7_readAlls 50 = .ok (.iconst 0, 1) := by decide +kernel
theorem dX7_readAlls_51 : decode cX7_readAlls 51 = .ok (.istore_n 2, 1) := by decide +kernel
theorem dX7_readAlls_52 : decode cX7_readAlls 52 = .ok (.iload_n 2, 1) := by decide +kernel
theorem dX7_readAlls_53 : decode cX7_readAlls 53 = .ok (.ifCond .eq 7, 3) := by decide +kernel
theorem dX7_readAlls_56 : decode cX7_readAlls 56 = .ok (.aload_n 0, 1) := by decide +kernel
theorem dX7_readAlls_57 : decode cX7_readAlls 57 = .ok (.invokevirtual 113, 3) := by decide +kernel
theorem dX7_readAlls_60 : decode cX7_readAlls 60 = .ok (.iinc 3 1, 3) := by decide +kernel
theorem dX7_readAlls_63 : decode cX7_readAlls 63 = .ok (.goto (-59), 3) := by decide +kernel
theorem dX7_readAlls_66 : decode cX7_readAlls 66 = .ok (.iconst 1, 1) := by decide +kernel
theorem dX7_readAlls_67 : decode cX7_readAlls 67 = .ok (.ireturn, 1) := by decide +kernel
theorem dX7_readOne_0 : decode cX7_readOne 0 = .ok (.iconst 0, 1) := by decide +kernel
theorem dX7_readOne_1 : decode cX7_readOne 1 = .ok (.istore_n 2, 1) := by decide +kernel
theorem dX7_readOne_2 : decode cX7_readOne 2 = .ok (.iconst 0, 1) := by decide +kernel
theorem dX7_readOne_3 : decode cX7_readOne 3 = .ok (.istore_n 3, 1) := by decide +kernel
theorem dX7_readOne_4 : decode cX7_readOne 4 = .ok (.iload_n 3, 1) := by decide +kernel
theorem dX7_readOne_5 : decode cX7_readOne 5 = .ok (.sipush 200, 3) := by decide +kernel
theorem dX7_readOne_8 : decode cX7_readOne 8 = .ok (.if_icmp .ge 32, 3) := by decide +kernel
theorem dX7_readOne_11 : decode cX7_readOne 11 = .ok (.aload_n 0, 1) := by decide +kernel
theorem dX7_readOne_12 : decode cX7_readOne 12 = .ok (.getfield 116, 3) := by decide +kernel
theorem dX7_readOne_15 : decode cX7_readOne 15 = .ok (.bipush 12, 2) := by decide +kernel
theorem dX7_readOne_17 : decode cX7_readOne 17 = .ok (.if_icmp .ne 23, 3) := by decide +kernel
theorem dX7_readOne_20 : decode cX7_readOne 20 = .ok (.iload_n 2, 1) := by decide +kernel
theorem dX7_readOne_21 : decode cX7_readOne 21 = .ok (.ifCond .ne 7, 3) := by decide +kernel
theorem dX7_readOne_24 : decode cX7_readOne 24 = .ok (.iconst 1, 1) := by decide +kernel
theorem dX7_readOne_25 : decode cX7_readOne 25 = .ok (.goto 4, 3) := by decide +kernel
theorem dX7_readOne_28 : decode cX7_readOne 28 = .ok (.iconst 0, 1) := by decide +kernel
theorem dX7_readOne_29 : decode cX7_readOne 29 = .ok (.istore_n 2, 1) := by decide +kernel
theorem dX7_readOne_30 : decode cX7_readOne 30 = .ok (.aload_n 0, 1) := by decide +kernel
theorem dX7_readOne_31 : decode cX7_readOne 31 = .ok (.invokevirtual 113, 3) := by decide +kernel
theorem dX7_readOne_34 : decode cX7_readOne 34 = .ok (.iinc 3 1, 3) := by decide +kernel
theorem dX7_readOne_37 : decode cX7_readOne 37 = .ok (.goto (-33), 3) := by decide +kernel
theorem dX7_readOne_40 : decode cX7_readOne 40 = .ok (.aload_n 0, 1) := by decide +kernel
theorem dX7_readOne_41 : decode cX7_readOne 41 = .ok (.getfield 116, 3) := by decide +kernel
theorem dX7_readOne_44 : decode cX7_readOne 44 = .ok (.sipush 140, 3) := by decide +kernel
theorem dX7_readOne_47 : decode cX7_readOne 47 = .ok (.if_icmp .ne 11, 3) := by decide +kernel
theorem dX7_readOne_50 : decode cX7_readOne 50 = .ok (.aload_n 0, 1) := by decide +kernel
theorem dX7_readOne_51 : decode cX7_readOne 51 = .ok (.iload_n 1, 1) := by decide +kernel
theorem dX7_readOne_52 : decode cX7_readOne 52 = .ok (.invokevirtual 144, 3) := by decide +kernel
theorem dX7_readOne_55 : decode cX7_readOne 55 = .ok (.goto 7, 3) := by decide +kernel
theorem dX7_readOne_58 : decode cX7_readOne 58 = .ok (.aload_n 0, 1) := by decide +kernel
theorem dX7_readOne_59 : decode cX7_readOne 59 = .ok (.invokevirtual 147, 3) := by decide +kernel
theorem dX7_readOne_62 : decode cX7_readOne 62 = .ok (.istore_n 3, 1) := by decide +kernel
theorem dX7_readOne_63 : decode cX7_readOne 63 = .ok (.iload_n 3, 1) := by decide +kernel
theorem dX7_readOne_64 : decode cX7_readOne 64 = .ok (.ifCond .eq 15, 3) := by decide +kernel
theorem dX7_readOne_67 : decode cX7_readOne 67 = .ok (.iload_n 2, 1) := by decide +kernel
theorem dX7_readOne_68 : decode cX7_readOne 68 = .ok (.ifCond .eq 11, 3) := by decide +kernel
theorem dX7_readOne_71 : decode cX7_readOne 71 = .ok (.aload_n 0, 1) := by decide +kernel
theorem dX7_readOne_72 : decode cX7_readOne 72 = .ok (.getfield 12, 3) := by decide +kernel
theorem dX7_readOne_75 : decode cX7_readOne 75 = .ok (.iconst 0, 1) := by decide +kernel
theorem dX7_readOne_76 : decode cX7_readOne 76 = .ok (.invokevirtual 137, 3) := by decide +kernel
theorem dX7_readOne_79 : decode cX7_readOne 79 = .ok (.iload_n 3, 1) := by decide +kernel
theorem dX7_readOne_80 : decode cX7_readOne 80 = .ok (.ireturn, 1) := by decide +kernel
theorem dX7_readInner_0 : decode cX7_readInner 0 = .ok (.iload_n 1, 1) := by decide +kernel
theorem dX7_readInner_1 : decode cX7_readInner 1 = .ok (.iconst 3, 1) := by decide +kernel
theorem dX7_readInner_2 : decode cX7_readInner 2 = .ok (.if_icmp .lt 5, 3) := by decide +kernel
theorem dX7_readInner_5 : decode cX7_readInner 5 = .ok (.iconst 0, 1) := by decide +kernel
theorem dX7_readInner_6 : decode cX7_readInner 6 = .ok (.ireturn, 1) := by decide +kernel
theorem dX7_readInner_7 : decode cX7_readInner 7 = .ok (.aload_n 0, 1) := by decide +kernel
theorem dX7_readInner_8 : decode cX7_readInner 8 = .ok (.invokevirtual 113, 3) := by decide +kernel
theorem dX7_readInner_11 : decode cX7_readInner 11 = .ok (.aload_n 0, 1) := by decide +kernel
theorem dX7_readInner_12 : decode cX7_readInner 12 = .ok (.iload_n 1, 1) := by decide +kernel
theorem dX7_readInner_13 : decode cX7_readInner 13 = .ok (.iconst 1, 1) := by decide +kernel
theorem dX7_readInner_14 : decode cX7_readInner 14 = .ok (.iadd, 1) := by decide +kernel
theorem dX7_readInner_15 : decode cX7_readInner 15 = .ok (.invokevirtual 126, 3) := by decide +kernel
theorem dX7_readInner_18 : decode cX7_readInner 18 = .ok (.ifCond .eq 13, 3) := by decide +kernel
theorem dX7_readInner_21 : decode cX7_readInner 21 = .ok (.aload_n 0, 1) := by decide +kernel
theorem dX7_readInner_22 : decode cX7_readInner 22 = .ok (.getfield 116, 3) := by decide +kernel
theorem dX7_readInner_25 : decode cX7_readInner 25 = .ok (.sipush 141, 3) := by decide +kernel
theorem dX7_readInner_28 : decode cX7_readInner 28 = .ok (.if_icmp .eq 5, 3) := by decide +kernel
theorem dX7_readInner_31 : decode cX7_readInner 31 = .ok (.iconst 0, 1) := by decide +kernel
theorem dX7_readInner_32 : decode cX7_readInner 32 = .ok (.ireturn, 1) := by decide +kernel
theorem dX7_readInner_33 : decode cX7_readInner 33 = .ok (.aload_n 0, 1) := by decide +kernel
theorem dX7_readInner_34 : decode cX7_readInner 34 = .ok (.invokevirtual 113, 3) := by decide +kernel
theorem dX7_readInner_37 : decode cX7_readInner 37 = .ok (.iconst 1, 1) := by decide +kernel
theorem dX7_readInner_38 : decode cX7_readInner 38 = .ok (.ireturn, 1) := by decide +kernel
theorem dX7_readComparison_0 : decode cX7_readComparison 0 = .ok (.aload_n 0, 1) := by decide +kernel
theorem dX7_readComparison_1 : decode cX7_readComparison 1 = .ok (.invokevirtual 150, 3) := by decide +kernel
theorem dX7_readComparison_4 : decode cX7_readComparison 4 = .ok (.ifCond .ne 5, 3) := by decide +kernel
theorem dX7_readComparison_7 : decode cX7_readComparison 7 = .ok (.iconst 0, 1) := by decide +kernel
theorem dX7_readComparison_8 : decode cX7_readComparison 8 = .ok (.ireturn, 1) := by decide +kernel
theorem dX7_readComparison_9 : decode cX7_readComparison 9 = .ok (.aload_n 0, 1) := by decide +kernel
theorem dX7_readComparison_10 : decode cX7_readComparison 10 = .ok (.invokevirtual 153, 3) := by decide +kernel
theorem dX7_readComparison_13 : decode cX7_readComparison 13 = .ok (.istore_n 1, 1) := by decide +kernel
theorem dX7_readComparison_14 : decode cX7_readComparison 14 = .ok (.aload_n 0, 1) := by decide +kernel
theorem dX7_readComparison_15 : decode cX7_readComparison 15 = .ok (.invokevirtual 113, 3) := by decide +kernel
theorem dX7_readComparison_18 : decode cX7_readComparison 18 = .ok (.aload_n 0, 1) := by decide +kernel
theorem dX7_readComparison_19 : decode cX7_readComparison 19 = .ok (.getfield 116, 3) := by decide +kernel
theorem dX7_readComparison_22 : decode cX7_readComparison 22 = .ok (.sipush 160, 3) := by decide +kernel
theorem dX7_readComparison_25 : decode cX7_readComparison 25 = .ok (.if_icmp .ne 7, 3) := by decide +kernel
theorem dX7_readComparison_28 : decode cX7_readComparison 28 = .ok (.iconst 3, 1) := by decide +kernel
theorem dX7_readComparison_29 : decode cX7_readComparison 29 = .ok (.goto 18, 3) := by decide +kernel
theorem dX7_readComparison_32 : decode cX7_readComparison 32 = .ok (.aload_n 0, 1) := by decide +kernel
theorem dX7_readComparison_33 : decode cX7_readComparison 33 = .ok (.getfield 116, 3) := by decide +kernel
theorem dX7_readComparison_36 : decode cX7_readComparison 36 = .ok (.sipush 161, 3) := by decide +kernel
theorem dX7_readComparison_39 : decode cX7_readComparison 39 = .ok (.if_icmp .ne 7, 3) := by decide +kernel
theorem dX7_readComparison_42 : decode cX7_readComparison 42 = .ok (.iconst 4, 1) := by decide +kernel
theorem dX7_readComparison_43 : decode cX7_readComparison 43 = .ok (.goto 4, 3) := by decide +kernel
theorem dX7_readComparison_46 : decode cX7_readComparison 46 = .ok (.iconst 5, 1) := by decide +kernel
theorem dX7_readComparison_47 : decode cX7_readComparison 47 = .ok (.istore_n 2, 1) := by decide +kernel
theorem dX7_readComparison_48 : decode cX7_readComparison 48 = .ok (.iload_n 2, 1) := by decide +kernel
theorem dX7_readComparison_49 : decode cX7_readComparison 49 = .ok (.iconst 5, 1) := by decide +kernel
theorem dX7_readComparison_50 : decode cX7_readComparison 50 = .ok (.if_icmp .ne 15, 3) := by decide +kernel
theorem dX7_readComparison_53 : decode cX7_readComparison 53 = .ok (.aload_n 0, 1) := by decide +kernel
theorem dX7_readComparison_54 : decode cX7_readComparison 54 = .ok (.getfield 116, 3) := by decide +kernel
theorem dX7_readComparison_57 : decode cX7_readComparison 57 = .ok (.sipush 162, 3) := by decide +kernel
theorem dX7_readComparison_60 : decode cX7_readComparison 60 = .ok (.if_icmp .eq 5, 3) := by decide +kernel
theorem dX7_readComparison_63 : decode cX7_readComparison 63 = .ok (.iconst 0, 1) := by decide +kernel
theorem dX7_readComparison_64 : decode cX7_readComparison 64 = .ok (.ireturn, 1) := by decide +kernel
theorem dX7_readComparison_65 : decode cX7_readComparison 65 = .ok (.aload_n 0, 1) := by decide +kernel
theorem dX7_readComparison_66 : decode cX7_readComparison 66 = .ok (.invokevirtual 113, 3) := by decide +kernel
theorem dX7_readComparison_69 : decode cX7_readComparison 69 = .ok (.aload_n 0, 1) := by decide +kernel
theorem dX7_readComparison_70 : decode cX7_readComparison 70 = .ok (.invokevirtual 150, 3) := by decide +kernel
theorem dX7_readComparison_73 : decode cX7_readComparison 73 = .ok (.ifCond .ne 5, 3) := by decide +kernel
theorem dX7_readComparison_76 : decode cX7_readComparison 76 = .ok (.iconst 0, 1) := by decide +kernel
theorem dX7_readComparison_77 : decode cX7_readComparison 77 = .ok (.ireturn, 1) := by decide +kernel
theorem dX7_readComparison_78 : decode cX7_readComparison 78 = .ok (.aload_n 0, 1) := by decide +kernel
theorem dX7_readComparison_79 : decode cX7_readComparison 79 = .ok (.getfield 12, 3) := by decide +kernel
theorem dX7_readComparison_82 : decode cX7_readComparison 82 = .ok (.iload_n 2, 1) := by decide +kernel
theorem dX7_readComparison_83 : decode cX7_readComparison 83 = .ok (.invokevirtual 137, 3) := by decide +kernel
theorem dX7_readComparison_86 : decode cX7_readComparison 86 = .ok (.aload_n 0, 1) := by decide +kernel
theorem dX7_readComparison_87 : decode cX7_readComparison 87 = .ok (.getfield 12, 3) := by decide +kernel
theorem dX7_readComparison_90 : decode cX7_readComparison 90 = .ok (.iload_n 1, 1) := by decide +kernel
theorem dX7_readComparison_91 : decode cX7_readComparison 91 = .ok (.invokevirtual 137, 3) := by decide +kernel
theorem dX7_readComparison_94 : decode cX7_readComparison 94 = .ok (.aload_n 0, 1) := by decide +kernel
theorem dX7_readComparison_95 : decode cX7_readComparison 95 = .ok (.getfield 12, 3) := by decide +kernel
theorem dX7_readComparison_98 : decode cX7_readComparison 98 = .ok (.aload_n 0, 1) := by decide +kernel
theorem dX7_readComparison_99 : decode cX7_readComparison 99 = .ok (.invokevirtual 153, 3) := by decide +kernel
theorem dX7_readComparison_102 : decode cX7_readComparison 102 = .ok (.invokevirtual 137, 3) := by decide +kernel
theorem dX7_readComparison_105 : decode cX7_readComparison 105 = .ok (.aload_n 0, 1) := by decide +kernel
theorem dX7_readComparison_106 : decode cX7_readComparison 106 = .ok (.invokevirtual 113, 3) := by decide +kernel
theorem dX7_readComparison_109 : decode cX7_readComparison 109 = .ok (.iconst 1, 1) := by decide +kernel
theorem dX7_readComparison_110 : decode cX7_readComparison 110 = .ok (.ireturn, 1) := by decide +kernel
theorem dX7_isOperand_0 : decode cX7_isOperand 0 = .ok (.aload_n 0, 1) := by decide +kernel
theorem dX7_isOperand_1 : decode cX7_isOperand 1 = .ok (.getfield 116, 3) := by decide +kernel
theorem dX7_isOperand_4 : decode cX7_isOperand 4 = .ok (.bipush 19, 2) := by decide +kernel
theorem dX7_isOperand_6 : decode cX7_isOperand 6 = .ok (.if_icmp .eq 21, 3) := by decide +kernel
theorem dX7_isOperand_9 : decode cX7_isOperand 9 = .ok (.aload_n 0, 1) := by decide +kernel
theorem dX7_isOperand_10 : decode cX7_isOperand 10 = .ok (.getfield 116, 3) := by decide +kernel
theorem dX7_isOperand_13 : decode cX7_isOperand 13 = .ok (.bipush 13, 2) := by decide +kernel
theorem dX7_isOperand_15 : decode cX7_isOperand 15 = .ok (.if_icmp .lt 16, 3) := by decide +kernel
theorem dX7_isOperand_18 : decode cX7_isOperand 18 = .ok (.aload_n 0, 1) := by decide +kernel
theorem dX7_isOperand_19 : decode cX7_isOperand 19 = .ok (.getfield 116, 3) := by decide +kernel
theorem dX7_isOperand_22 : decode cX7_isOperand 22 = .ok (.bipush 17, 2) := by decide +kernel
theorem dX7_isOperand_24 : decode cX7_isOperand 24 = .ok (.if_icmp .gt 7, 3) := by decide +kernel
theorem dX7_isOperand_27 : decode cX7_isOperand 27 = .ok (.iconst 1, 1) := by decide +kernel
theorem dX7_isOperand_28 : decode cX7_isOperand 28 = .ok (.goto 4, 3) := by decide +kernel
theorem dX7_isOperand_31 : decode cX7_isOperand 31 = .ok (.iconst 0, 1) := by decide +kernel
theorem dX7_isOperand_32 : decode cX7_isOperand 32 = .ok (.ireturn, 1) := by decide +kernel
theorem dX7_operand_0 : decode cX7_operand 0 = .ok (.aload_n 0, 1) := by decide +kernel
theorem dX7_operand_1 : decode cX7_operand 1 = .ok (.getfield 116, 3) := by decide +kernel
theorem dX7_operand_4 : decode cX7_operand 4 = .ok (.bipush 13, 2) := by decide +kernel
theorem dX7_operand_6 : decode cX7_operand 6 = .ok (.if_icmp .lt 22, 3) := by decide +kernel
theorem dX7_operand_9 : decode cX7_operand 9 = .ok (.aload_n 0, 1) := by decide +kernel
theorem dX7_operand_10 : decode cX7_operand 10 = .ok (.getfield 116, 3) := by decide +kernel
theorem dX7_operand_13 : decode cX7_operand 13 = .ok (.bipush 17, 2) := by decide +kernel
theorem dX7_operand_15 : decode cX7_operand 15 = .ok (.if_icmp .gt 13, 3) := by decide +kernel
theorem dX7_operand_18 : decode cX7_operand 18 = .ok (.iconst (-1), 1) := by decide +kernel
theorem dX7_operand_19 : decode cX7_operand 19 = .ok (.aload_n 0, 1) := by decide +kernel
theorem dX7_operand_20 : decode cX7_operand 20 = .ok (.getfield 116, 3) := by decide +kernel
theorem dX7_operand_23 : decode cX7_operand 23 = .ok (.bipush 13, 2) := by decide +kernel
theorem dX7_operand_25 : decode cX7_operand 25 = .ok (.isub, 1) := by decide +kernel
theorem dX7_operand_26 : decode cX7_operand 26 = .ok (.isub, 1) := by decide +kernel
theorem dX7_operand_27 : decode cX7_operand 27 = .ok (.ireturn, 1) := by decide +kernel
theorem dX7_operand_28 : decode cX7_operand 28 = .ok (.aload_n 0, 1) := by decide +kernel
theorem dX7_operand_29 : decode cX7_operand 29 = .ok (.getfield 110, 3) := by decide +kernel
theorem dX7_operand_32 : decode cX7_operand 32 = .ok (.ifCond .lt 26, 3) := by decide +kernel
theorem dX7_operand_35 : decode cX7_operand 35 = .ok (.aload_n 0, 1) := by decide +kernel
theorem dX7_operand_36 : decode cX7_operand 36 = .ok (.getfield 110, 3) := by decide +kernel
theorem dX7_operand_39 : decode cX7_operand 39 = .ok (.aload_n 0, 1) := by decide +kernel
theorem dX7_operand_40 : decode cX7_operand 40 = .ok (.getfield 28, 3) := by decide +kernel
theorem dX7_operand_43 : decode cX7_operand 43 = .ok (.if_icmp .ge 15, 3) := by decide +kernel
theorem dX7_operand_46 : decode cX7_operand 46 = .ok (.aload_n 0, 1) := by decide +kernel
theorem dX7_operand_47 : decode cX7_operand 47 = .ok (.getfield 25, 3) := by decide +kernel
theorem dX7_operand_50 : decode cX7_operand 50 = .ok (.aload_n 0, 1) := by decide +kernel
theorem dX7_operand_51 : decode cX7_operand 51 = .ok (.getfield 110, 3) := by decide +kernel
theorem dX7_operand_54 : decode cX7_operand 54 = .ok (.iaload, 1) := by decide +kernel
theorem dX7_operand_55 : decode cX7_operand 55 = .ok (.goto 4, 3) := by decide +kernel
theorem dX7_operand_58 : decode cX7_operand 58 = .ok (.iconst 0, 1) := by decide +kernel
theorem dX7_operand_59 : decode cX7_operand 59 = .ok (.ireturn, 1) := by decide +kernel
theorem dX8_init_0 : decode cX8_init 0 = .ok (.aload_n 0, 1) := by decide +kernel
theorem dX8_init_1 : decode cX8_init 1 = .ok (.invokespecial 3, 3) := by decide +kernel
theorem dX8_init_4 : decode cX8_init 4 = .ok (.aload_n 0, 1) := by decide +kernel
theorem dX8_init_5 : decode cX8_init 5 = .ok (.bipush 8, 2) := by decide +kernel
theorem dX8_init_7 : decode cX8_init 7 = .ok (.newarray .int, 2) := by decide +kernel
theorem dX8_init_9 : decode cX8_init 9 = .ok (.putfield 9, 3) := by decide +kernel
theorem dX8_init_12 : decode cX8_init 12 = .ok (.aload_n 0, 1) := by decide +kernel
theorem dX8_init_13 : decode cX8_init 13 = .ok (.bipush 8, 2) := by decide +kernel
theorem dX8_init_15 : decode cX8_init 15 = .ok (.newarray .int, 2) := by decide +kernel
theorem dX8_init_17 : decode cX8_init 17 = .ok (.putfield 15, 3) := by decide +kernel
theorem dX8_init_20 : decode cX8_init 20 = .ok (.aload_n 0, 1) := by decide +kernel
theorem dX8_init_21 : decode cX8_init 21 = .ok (.bipush 8, 2) := by decide +kernel
theorem dX8_init_23 : decode cX8_init 23 = .ok (.newarray .int, 2) := by decide +kernel
theorem dX8_init_25 : decode cX8_init 25 = .ok (.putfield 18, 3) := by decide +kernel
theorem dX8_init_28 : decode cX8_init 28 = .ok (.aload_n 0, 1) := by decide +kernel
theorem dX8_init_29 : decode cX8_init 29 = .ok (.sipush 200, 3) := by decide +kernel
theorem dX8_init_32 : decode cX8_init 32 = .ok (.newarray .int, 2) := by decide +kernel
theorem dX8_init_34 : decode cX8_init 34 = .ok (.putfield 21, 3) := by decide +kernel
theorem dX8_init_37 : decode cX8_init 37 = .ok (.aload_n 0, 1) := by decide +kernel
theorem dX8_init_38 : decode cX8_init 38 = .ok (.iconst 5, 1) := by decide +kernel
theorem dX8_init_39 : decode cX8_init 39 = .ok (.newarray .int, 2) := by decide +kernel
theorem dX8_init_41 : decode cX8_init 41 = .ok (.putfield 24, 3) := by decide +kernel
theorem dX8_init_44 : decode cX8_init 44 = .ok (.return_, 1) := by decide +kernel
theorem dX8_isOrUnder_0 : decode cX8_isOrUnder 0 = .ok (.iload_n 0, 1) := by decide +kernel
theorem dX8_isOrUnder_1 : decode cX8_isOrUnder 1 = .ok (.istore_n 2, 1) := by decide +kernel
theorem dX8_isOrUnder_2 : decode cX8_isOrUnder 2 = .ok (.iconst 0, 1) := by decide +kernel
theorem dX8_isOrUnder_3 : decode cX8_isOrUnder 3 = .ok (.istore_n 3, 1) := by decide +kernel
theorem dX8_isOrUnder_4 : decode cX8_isOrUnder 4 = .ok (.iload_n 3, 1) := by decide +kernel
theorem dX8_isOrUnder_5 : decode cX8_isOrUnder 5 = .ok (.iconst 3, 1) := by decide +kernel
theorem dX8_isOrUnder_6 : decode cX8_isOrUnder 6 = .ok (.if_icmp .ge 34, 3) := by decide +kernel
theorem dX8_isOrUnder_9 : decode cX8_isOrUnder 9 = .ok (.iload_n 2, 1) := by decide +kernel
theorem dX8_isOrUnder_10 : decode cX8_isOrUnder 10 = .ok (.ifCond .lt 30, 3) := by decide +kernel
theorem dX8_isOrUnder_13 : decode cX8_isOrUnder 13 = .ok (.iload_n 2, 1) := by decide +kernel
theorem dX8_isOrUnder_14 : decode cX8_isOrUnder 14 = .ok (.getstatic 27, 3) := by decide +kernel
theorem dX8_isOrUnder_17 : decode cX8_isOrUnder 17 = .ok (.arraylength, 1) := by decide +kernel
theorem dX8_isOrUnder_18 : decode cX8_isOrUnder 18 = .ok (.if_icmp .ge 22, 3) := by decide +kernel
theorem dX8_isOrUnder_21 : decode cX8_isOrUnder 21 = .ok (.iload_n 2, 1) := by decide +kernel
theorem dX8_isOrUnder_22 : decode cX8_isOrUnder 22 = .ok (.iload_n 1, 1) := by decide +kernel
theorem dX8_isOrUnder_23 : decode cX8_isOrUnder 23 = .ok (.if_icmp .ne 5, 3) := by decide +kernel
theorem dX8_isOrUnder_26 : decode cX8_isOrUnder 26 = .ok (.iconst 1, 1) := by decide +kernel
theorem dX8_isOrUnder_27 : decode cX8_isOrUnder 27 = .ok (.ireturn, 1) := by decide +kernel
theorem dX8_isOrUnder_28 : decode cX8_isOrUnder 28 = .ok (.getstatic 27, 3) := by decide +kernel
theorem dX8_isOrUnder_31 : decode cX8_isOrUnder 31 = .ok (.iload_n 2, 1) := by decide +kernel
theorem dX8_isOrUnder_32 : decode cX8_isOrUnder 32 = .ok (.iaload, 1) := by decide +kernel
theorem dX8_isOrUnder_33 : decode cX8_isOrUnder 33 = .ok (.istore_n 2, 1) := by decide +kernel
theorem dX8_isOrUnder_34 : decode cX8_isOrUnder 34 = .ok (.iinc 3 1, 3) := by decide +kernel
theorem dX8_isOrUnder_37 : decode cX8_isOrUnder 37 = .ok (.goto (-33), 3) := by decide +kernel
theorem dX8_isOrUnder_40 : decode cX8_isOrUnder 40 = .ok (.iconst 0, 1) := by decide +kernel
theorem dX8_isOrUnder_41 : decode cX8_isOrUnder 41 = .ok (.ireturn, 1) := by decide +kernel
theorem dX8_copyFrom_0 : decode cX8_copyFrom 0 = .ok (.aload_n 0, 1) := by decide +kernel
theorem dX8_copyFrom_1 : decode cX8_copyFrom 1 = .ok (.aload_n 1, 1) := by decide +kernel
theorem dX8_copyFrom_2 : decode cX8_copyFrom 2 = .ok (.getfield 30, 3) := by decide +kernel
theorem dX8_copyFrom_5 : decode cX8_copyFrom 5 = .ok (.putfield 30, 3) := by decide +kernel
theorem dX8_copyFrom_8 : decode cX8_copyFrom 8 = .ok (.aload_n 1, 1) := by decide +kernel
theorem dX8_copyFrom_9 : decode cX8_copyFrom 9 = .ok (.getfield 9, 3) := by decide +kernel
theorem dX8_copyFrom_12 : decode cX8_copyFrom 12 = .ok (.iconst 0, 1) := by decide +kernel
theorem dX8_copyFrom_13 : decode cX8_copyFrom 13 = .ok (.aload_n 0, 1) := by decide +kernel
theorem dX8_copyFrom_14 : decode cX8_copyFrom 14 = .ok (.getfield 9, 3) := by decide +kernel
theorem dX8_copyFrom_17 : decode cX8_copyFrom 17 = .ok (.iconst 0, 1) := by decide +kernel
theorem dX8_copyFrom_18 : decode cX8_copyFrom 18 = .ok (.bipush 8, 2) := by decide +kernel
theorem dX8_copyFrom_20 : decode cX8_copyFrom 20 = .ok (.invokestatic 34, 3) := by decide +kernel
theorem dX8_copyFrom_23 : decode cX8_copyFrom 23 = .ok (.aload_n 1, 1) := by decide +kernel
theorem dX8_copyFrom_24 : decode cX8_copyFrom 24 = .ok (.getfield 15, 3) := by decide +kernel
theorem dX8_copyFrom_27 : decode cX8_copyFrom 27 = .ok (.iconst 0, 1) := by decide +kernel
theorem dX8_copyFrom_28 : decode cX8_copyFrom 28 = .ok (.aload_n 0, 1) := by decide +kernel
theorem dX8_copyFrom_29 : decode cX8_copyFrom 29 = .ok (.getfield 15, 3) := by decide +kernel
theorem dX8_copyFrom_32 : decode cX8_copyFrom 32 = .ok (.iconst 0, 1) := by decide +kernel
theorem dX8_copyFrom_33 : decode cX8_copyFrom 33 = .ok (.bipush 8, 2) := by decide +kernel
theorem dX8_copyFrom_35 : decode cX8_copyFrom 35 = .ok (.invokestatic 34, 3) := by decide +kernel
theorem dX8_copyFrom_38 : decode cX8_copyFrom 38 = .ok (.aload_n 1, 1) := by decide +kernel
theorem dX8_copyFrom_39 : decode cX8_copyFrom 39 = .ok (.getfield 18, 3) := by decide +kernel
theorem dX8_copyFrom_42 : decode cX8_copyFrom 42 = .ok (.iconst 0, 1) := by decide +kernel
theorem dX8_copyFrom_43 : decode cX8_copyFrom 43 = .ok (.aload_n 0, 1) := by decide +kernel
theorem dX8_copyFrom_44 : decode cX8_copyFrom 44 = .ok (.getfield 18, 3) := by decide +kernel
theorem dX8_copyFrom_47 : decode cX8_copyFrom 47 = .ok (.iconst 0, 1) := by decide +kernel
theorem dX8_copyFrom_48 : decode cX8_copyFrom 48 = .ok (.bipush 8, 2) := by decide +kernel
theorem dX8_copyFrom_50 : decode cX8_copyFrom 50 = .ok (.invokestatic 34, 3) := by decide +kernel
theorem dX8_copyFrom_53 : decode cX8_copyFrom 53 = .ok (.aload_n 1, 1) := by decide +kernel
theorem dX8_copyFrom_54 : decode cX8_copyFrom 54 = .ok (.getfield 21, 3) := by decide +kernel
theorem dX8_copyFrom_57 : decode cX8_copyFrom 57 = .ok (.iconst 0, 1) := by decide +kernel
theorem dX8_copyFrom_58 : decode cX8_copyFrom 58 = .ok (.aload_n 0, 1) := by decide +kernel
theorem dX8_copyFrom_59 : decode cX8_copyFrom 59 = .ok (.getfield 21, 3) := by decide +kernel
theorem dX8_copyFrom_62 : decode cX8_copyFrom 62 = .ok (.iconst 0, 1) := by decide +kernel
theorem dX8_copyFrom_63 : decode cX8_copyFrom 63 = .ok (.sipush 200, 3) := by decide +kernel
theorem dX8_copyFrom_66 : decode cX8_copyFrom 66 = .ok (.invokestatic 34, 3) := by decide +kernel
theorem dX8_copyFrom_69 : decode cX8_copyFrom 69 = .ok (.return_, 1) := by decide +kernel
theorem dX8_clear_0 : decode cX8_clear 0 = .ok (.aload_n 0, 1) := by decide +kernel
theorem dX8_clear_1 : decode cX8_clear 1 = .ok (.iconst 0, 1) := by decide +kernel
theorem dX8_clear_2 : decode cX8_clear 2 = .ok (.putfield 30, 3) := by decide +kernel
theorem dX8_clear_5 : decode cX8_clear 5 = .ok (.aload_n 0, 1) := by decide +kernel
theorem dX8_clear_6 : decode cX8_clear 6 = .ok (.iconst 0, 1) := by decide +kernel
theorem dX8_clear_7 : decode cX8_clear 7 = .ok (.putfield 40, 3) := by decide +kernel
theorem dX8_clear_10 : decode cX8_clear 10 = .ok (.return_, 1) := by decide +kernel
theorem dX8_emit_0 : decode cX8_emit 0 = .ok (.aload_n 0, 1) := by decide +kernel
theorem dX8_emit_1 : decode cX8_emit 1 = .ok (.getfield 40, 3) := by decide +kernel
theorem dX8_emit_4 : decode cX8_emit 4 = .ok (.sipush 200, 3) := by decide +kernel
theorem dX8_emit_7 : decode cX8_emit 7 = .ok (.if_icmp .ge 23, 3) := by decide +kernel
theorem dX8_emit_10 : decode cX8_emit 10 = .ok (.aload_n 0, 1) := by decide +kernel
theorem dX8_emit_11 : decode cX8_emit 11 = .ok (.getfield 21, 3) := by decide +kernel
theorem dX8_emit_14 : decode cX8_emit 14 = .ok (.aload_n 0, 1) := by decide +kernel
theorem dX8_emit_15 : decode cX8_emit 15 = .ok (.getfield 40, 3) := by decide +kernel
theorem dX8_emit_18 : decode cX8_emit 18 = .ok (.iload_n 1, 1) := by decide +kernel
theorem dX8_emit_19 : decode cX8_emit 19 = .ok (.iastore, 1) := by decide +kernel
theorem dX8_emit_20 : decode cX8_emit 20 = .ok (.aload_n 0, 1) := by decide +kernel
theorem dX8_emit_21 : decode cX8_emit 21 = .ok (.dup, 1) := by decide +kernel
theorem dX8_emit_22 : decode cX8_emit 22 = .ok (.getfield 40, 3) := by decide +kernel
theorem dX8_emit_25 : decode cX8_emit 25 = .ok (.iconst 1, 1) := by decide +kernel
theorem dX8_emit_26 : decode cX8_emit 26 = .ok (.iadd, 1) := by decide +kernel
theorem dX8_emit_27 : decode cX8_emit 27 = .ok (.putfield 40, 3) := by decide +kernel
theorem dX8_emit_30 : decode cX8_emit 30 = .ok (.return_, 1) := by decide +kernel
theorem dX8_close_0 : decode cX8_close 0 = .ok (.aload_n 0, 1) := by decide +kernel
theorem dX8_close_1 : decode cX8_close 1 = .ok (.getfield 30, 3) := by decide +kernel
theorem dX8_close_4 : decode cX8_close 4 = .ok (.bipush 8, 2) := by decide +kernel
theorem dX8_close_6 : decode cX8_close 6 = .ok (.if_icmp .ge 46, 3) := by decide +kernel
theorem dX8_close_9 : decode cX8_close 9 = .ok (.aload_n 0, 1) := by decide +kernel
theorem dX8_close_10 : decode cX8_close 10 = .ok (.getfield 9, 3) := by decide +kernel
theorem dX8_close_13 : decode cX8_close 13 = .ok (.aload_n 0, 1) := by decide +kernel
theorem dX8_close_14 : decode cX8_close 14 = .ok (.getfield 30, 3) := by decide +kernel
theorem dX8_close_17 : decode cX8_close 17 = .ok (.iload_n 1, 1) := by decide +kernel
theorem dX8_close_18 : decode cX8_close 18 = .ok (.iastore, 1) := by decide +kernel
theorem dX8_close_19 : decode cX8_close 19 = .ok (.aload_n 0, 1) := by decide +kernel
theorem dX8_close_20 : decode cX8_close 20 = .ok (.getfield 15, 3) := by decide +kernel
theorem dX8_close_23 : decode cX8_close 23 = .ok (.aload_n 0, 1) := by decide +kernel
theorem dX8_close_24 : decode cX8_close 24 = .ok (.getfield 30, 3) := by decide +kernel
theorem dX8_close_27 : decode cX8_close 27 = .ok (.iload_n 2, 1) := by decide +kernel
theorem dX8_close_28 : decode cX8_close 28 = .ok (.iastore, 1) := by decide +kernel
theorem dX8_close_29 : decode cX8_close 29 = .ok (.aload_n 0, 1) := by decide +kernel
theorem dX8_close_30 : decode cX8_close 30 = .ok (.getfield 18, 3) := by decide +kernel
theorem dX8_close_33 : decode cX8_close 33 = .ok (.aload_n 0, 1) := by decide +kernel
theorem dX8_close_34 : decode cX8_close 34 = .ok (.getfield 30, 3) := by decide +kernel
theorem dX8_close_37 : decode cX8_close 37 = .ok (.aload_n 0, 1) := by decide +kernel
theorem dX8_close_38 : decode cX8_close 38 = .ok (.getfield 40, 3) := by decide +kernel
theorem dX8_close_41 : decode cX8_close 41 = .ok (.iastore, 1) := by decide +kernel
theorem dX8_close_42 : decode cX8_close 42 = .ok (.aload_n 0, 1) := by decide +kernel
theorem dX8_close_43 : decode cX8_close 43 = .ok (.dup, 1) := by decide +kernel
theorem dX8_close_44 : decode cX8_close 44 = .ok (.getfield 30, 3) := by decide +kernel
theorem dX8_close_47 : decode cX8_close 47 = .ok (.iconst 1, 1) := by decide +kernel
theorem dX8_close_48 : decode cX8_close 48 = .ok (.iadd, 1) := by decide +kernel
theorem dX8_close_49 : decode cX8_close 49 = .ok (.putfield 30, 3) := by decide +kernel
theorem dX8_close_52 : decode cX8_close 52 = .ok (.return_, 1) := by decide +kernel
theorem dX8_learn_0 : decode cX8_learn 0 = .ok (.aload_n 0, 1) := by decide +kernel
theorem dX8_learn_1 : decode cX8_learn 1 = .ok (.getfield 24, 3) := by decide +kernel
theorem dX8_learn_4 : decode cX8_learn 4 = .ok (.iconst 0, 1) := by decide +kernel
theorem dX8_learn_5 : decode cX8_learn 5 = .ok (.iload_n 1, 1) := by decide +kernel
theorem dX8_learn_6 : decode cX8_learn 6 = .ok (.iastore, 1) := by decide +kernel
theorem dX8_learn_7 : decode cX8_learn 7 = .ok (.aload_n 0, 1) := by decide +kernel
theorem dX8_learn_8 : decode cX8_learn 8 = .ok (.getfield 24, 3) := by decide +kernel
theorem dX8_learn_11 : decode cX8_learn 11 = .ok (.iconst 1, 1) := by decide +kernel
theorem dX8_learn_12 : decode cX8_learn 12 = .ok (.iload_n 2, 1) := by decide +kernel
theorem dX8_learn_13 : decode cX8_learn 13 = .ok (.iastore, 1) := by decide +kernel
theorem dX8_learn_14 : decode cX8_learn 14 = .ok (.aload_n 0, 1) := by decide +kernel
theorem dX8_learn_15 : decode cX8_learn 15 = .ok (.getfield 24, 3) := by decide +kernel
theorem dX8_learn_18 : decode cX8_learn 18 = .ok (.iconst 2, 1) := by decide +kernel
theorem dX8_learn_19 : decode cX8_learn 19 = .ok (.iload_n 3, 1) := by decide +kernel
theorem dX8_learn_20 : decode cX8_learn 20 = .ok (.iastore, 1) := by decide +kernel
theorem dX8_learn_21 : decode cX8_learn 21 = .ok (.aload_n 0, 1) := by decide +kernel
theorem dX8_learn_22 : decode cX8_learn 22 = .ok (.getfield 24, 3) := by decide +kernel
theorem dX8_learn_25 : decode cX8_learn 25 = .ok (.iconst 3, 1) := by decide +kernel
theorem dX8_learn_26 : decode cX8_learn 26 = .ok (.iload 4, 2) := by decide +kernel
theorem dX8_learn_28 : decode cX8_learn 28 = .ok (.iastore, 1) := by decide +kernel
theorem dX8_learn_29 : decode cX8_learn 29 = .ok (.aload_n 0, 1) := by decide +kernel
theorem dX8_learn_30 : decode cX8_learn 30 = .ok (.getfield 24, 3) := by decide +kernel
theorem dX8_learn_33 : decode cX8_learn 33 = .ok (.iconst 4, 1) := by decide +kernel
theorem dX8_learn_34 : decode cX8_learn 34 = .ok (.iload 5, 2) := by decide +kernel
theorem dX8_learn_36 : decode cX8_learn 36 = .ok (.iastore, 1) := by decide +kernel
theorem dX8_learn_37 : decode cX8_learn 37 = .ok (.return_, 1) := by decide +kernel
theorem dX8_tell_0 : decode cX8_tell 0 = .ok (.iconst 0, 1) := by decide +kernel
theorem dX8_tell_1 : decode cX8_tell 1 = .ok (.istore_n 2, 1) := by decide +kernel
theorem dX8_tell_2 : decode cX8_tell 2 = .ok (.iconst 0, 1) := by decide +kernel
theorem dX8_tell_3 : decode cX8_tell 3 = .ok (.istore_n 3, 1) := by decide +kernel
theorem dX8_tell_4 : decode cX8_tell 4 = .ok (.iload_n 3, 1) := by decide +kernel
theorem dX8_tell_5 : decode cX8_tell 5 = .ok (.aload_n 0, 1) := by decide +kernel
theorem dX8_tell_6 : decode cX8_tell 6 = .ok (.getfield 30, 3) := by decide +kernel
theorem dX8_tell_9 : decode cX8_tell 9 = .ok (.if_icmp .ge 56, 3) := by decide +kernel
theorem dX8_tell_12 : decode cX8_tell 12 = .ok (.iload_n 3, 1) := by decide +kernel
theorem dX8_tell_13 : decode cX8_tell 13 = .ok (.bipush 8, 2) := by decide +kernel
theorem dX8_tell_15 : decode cX8_tell 15 = .ok (.if_icmp .ge 50, 3) := by decide +kernel
theorem dX8_tell_18 : decode cX8_tell 18 = .ok (.iload_n 1, 1) := by decide +kernel
theorem dX8_tell_19 : decode cX8_tell 19 = .ok (.aload_n 0, 1) := by decide +kernel
theorem dX8_tell_20 : decode cX8_tell 20 = .ok (.getfield 9, 3) := by decide +kernel
theorem dX8_tell_23 : decode cX8_tell 23 = .ok (.iload_n 3, 1) := by decide +kernel
theorem dX8_tell_24 : decode cX8_tell 24 = .ok (.iaload, 1) := by decide +kernel
theorem dX8_tell_25 : decode cX8_tell 25 = .ok (.invokestatic 43, 3) := by decide +kernel
theorem dX8_tell_28 : decode cX8_tell 28 = .ok (.ifCond .eq 24, 3) := by decide +kernel
theorem dX8_tell_31 : decode cX8_tell 31 = .ok (.aload_n 0, 1) := by decide +kernel
theorem dX8_tell_32 : decode cX8_tell 32 = .ok (.iload_n 2, 1) := by decide +kernel
theorem dX8_tell_33 : decode cX8_tell 33 = .ok (.aload_n 0, 1) := by decide +kernel
theorem dX8_tell_34 : decode cX8_tell 34 = .ok (.getfield 18, 3) := by decide +kernel
theorem dX8_tell_37 : decode cX8_tell 37 = .ok (.iload_n 3, 1) := by decide +kernel
theorem dX8_tell_38 : decode cX8_tell 38 = .ok (.iaload, 1) := by decide +kernel
theorem dX8_tell_39 : decode cX8_tell 39 = .ok (.invokevirtual 47, 3) := by decide +kernel
theorem dX8_tell_42 : decode cX8_tell 42 = .ok (.ifCond .eq 10, 3) := by decide +kernel
theorem dX8_tell_45 : decode cX8_tell 45 = .ok (.aload_n 0, 1) := by decide +kernel
theorem dX8_tell_46 : decode cX8_tell 46 = .ok (.getfield 15, 3) := by decide +kernel
theorem dX8_tell_49 : decode cX8_tell 49 = .ok (.iload_n 3, 1) := by decide +kernel
theorem dX8_tell_50 : decode cX8_tell 50 = .ok (.iaload, 1) := by decide +kernel
theorem dX8_tell_51 : decode cX8_tell 51 = .ok (.ireturn, 1) := by decide +kernel
theorem dX8_tell_52 : decode cX8_tell 52 = .ok (.aload_n 0, 1) := by decide +kernel
theorem dX8_tell_53 : decode cX8_tell 53 = .ok (.getfield 18, 3) := by decide +kernel
theorem dX8_tell_56 : decode cX8_tell 56 = .ok (.iload_n 3, 1) := by decide +kernel
theorem dX8_tell_57 : decode cX8_tell 57 = .ok (.iaload, 1) := by decide +kernel
theorem dX8_tell_58 : decode cX8_tell 58 = .ok (.istore_n 2, 1) := by decide +kernel
theorem dX8_tell_59 : decode cX8_tell 59 = .ok (.iinc 3 1, 3) := by decide +kernel
theorem dX8_tell_62 : decode cX8_tell 62 = .ok (.goto (-58), 3) := by decide +kernel
theorem dX8_tell_65 : decode cX8_tell 65 = .ok (.iconst 0, 1) := by decide +kernel
theorem dX8_tell_66 : decode cX8_tell 66 = .ok (.ireturn, 1) := by decide +kernel
theorem dX8_holds_0 : decode cX8_holds 0 = .ok (.iconst 1, 1) := by decide +kernel
theorem dX8_holds_1 : decode cX8_holds 1 = .ok (.istore_n 3, 1) := by decide +kernel
theorem dX8_holds_2 : decode cX8_holds 2 = .ok (.iload_n 1, 1) := by decide +kernel
theorem dX8_holds_3 : decode cX8_holds 3 = .ok (.istore 4, 2) := by decide +kernel
theorem dX8_holds_5 : decode cX8_holds 5 = .ok (.iload 4, 2) := by decide +kernel
theorem dX8_holds_7 : decode cX8_holds 7 = .ok (.iload_n 2, 1) := by decide +kernel
theorem dX8_holds_8 : decode cX8_holds 8 = .ok (.if_icmp .ge 187, 3) := by decide +kernel
theorem dX8_holds_11 : decode cX8_holds 11 = .ok (.iload 4, 2) := by decide +kernel
theorem dX8_holds_13 : decode cX8_holds 13 = .ok (.sipush 200, 3) := by decide +kernel
theorem dX8_holds_16 : decode cX8_holds 16 = .ok (.if_icmp .ge 179, 3) := by decide +kernel
theorem dX8_holds_19 : decode cX8_holds 19 = .ok (.aload_n 0, 1) := by decide +kernel
theorem dX8_holds_20 : decode cX8_holds 20 = .ok (.getfield 21, 3) := by decide +kernel
theorem dX8_holds_23 : decode cX8_holds 23 = .ok (.iload 4, 2) := by decide +kernel
theorem dX8_holds_25 : decode cX8_holds 25 = .ok (.iaload, 1) := by decide +kernel
theorem dX8_holds_26 : decode cX8_holds 26 = .ok (.istore 5, 2) := by decide +kernel
theorem dX8_holds_28 : decode cX8_holds 28 = .ok (.iload 5, 2) := by decide +kernel
theorem dX8_holds_30 : decode cX8_holds 30 = .ok (.ifCond .ne 10, 3) := by decide +kernel
theorem dX8_holds_33 : decode cX8_holds 33 = .ok (.iload_n 3, 1) := by decide +kernel
theorem dX8_holds_34 : decode cX8_holds 34 = .ok (.iconst 1, 1) := by decide +kernel
theorem dX8_holds_35 : decode cX8_holds 35 = .ok (.ixor, 1) := by decide +kernel
theorem dX8_holds_36 : decode cX8_holds 36 = .ok (.istore_n 3, 1) := by decide +kernel
theorem dX8_holds_37 : decode cX8_holds 37 = .ok (.goto 152, 3) := by decide +kernel
theorem dX8_holds_40 : decode cX8_holds 40 = .ok (.iload 5, 2) := by decide +kernel
theorem dX8_holds_42 : decode cX8_holds 42 = .ok (.iconst 1, 1) := by decide +kernel
theorem dX8_holds_43 : decode cX8_holds 43 = .ok (.if_icmp .ne 15, 3) := by decide +kernel
theorem dX8_holds_46 : decode cX8_holds 46 = .ok (.iload_n 3, 1) := by decide +kernel
theorem dX8_holds_47 : decode cX8_holds 47 = .ok (.iconst 1, 1) := by decide +kernel
theorem dX8_holds_48 : decode cX8_holds 48 = .ok (.ishr, 1) := by decide +kernel
theorem dX8_holds_49 : decode cX8_holds 49 = .ok (.iload_n 3, 1) := by decide +kernel
theorem dX8_holds_50 : decode cX8_holds 50 = .ok (.bipush (-2), 2) := by decide +kernel
theorem dX8_holds_52 : decode cX8_holds 52 = .ok (.ior, 1) := by decide +kernel
theorem dX8_holds_53 : decode cX8_holds 53 = .ok (.iand, 1) := by decide +kernel
theorem dX8_holds_54 : decode cX8_holds 54 = .ok (.istore_n 3, 1) := by decide +kernel
theorem dX8_holds_55 : decode cX8_holds 55 = .ok (.goto 134, 3) := by decide +kernel
theorem dX8_holds_58 : decode cX8_holds 58 = .ok (.iload 5, 2) := by decide +kernel
theorem dX8_holds_60 : decode cX8_holds 60 = .ok (.iconst 2, 1) := by decide +kernel
theorem dX8_holds_61 : decode cX8_holds 61 = .ok (.if_icmp .ne 14, 3) := by decide +kernel
theorem dX8_holds_64 : decode cX8_holds 64 = .ok (.iload_n 3, 1) := by decide +kernel
theorem dX8_holds_65 : decode cX8_holds 65 = .ok (.iconst 1, 1) := by decide +kernel
theorem dX8_holds_66 : decode cX8_holds 66 = .ok (.ishr, 1) := by decide +kernel
theorem dX8_holds_67 : decode cX8_holds 67 = .ok (.iload_n 3, 1) := by decide +kernel
theorem dX8_holds_68 : decode cX8_holds 68 = .ok (.iconst 1, 1) := by decide +kernel
theorem dX8_holds_69 : decode cX8_holds 69 = .ok (.iand, 1) := by decide +kernel
theorem dX8_holds_70 : decode cX8_holds 70 = .ok (.ior, 1) := by decide +kernel
theorem dX8_holds_71 : decode cX8_holds 71 = .ok (.istore_n 3, 1) := by decide +kernel
theorem dX8_holds_72 : decode cX8_holds 72 = .ok (.goto 117, 3) := by decide +kernel
theorem dX8_holds_75 : decode cX8_holds 75 = .ok (.iload 4, 2) := by decide +kernel
theorem dX8_holds_77 : decode cX8_holds 77 = .ok (.iconst 2, 1) := by decide +kernel
theorem dX8_holds_78 : decode cX8_holds 78 = .ok (.iadd, 1) := by decide +kernel
theorem dX8_holds_79 : decode cX8_holds 79 = .ok (.sipush 200, 3) := by decide +kernel
theorem dX8_holds_82 : decode cX8_holds 82 = .ok (.if_icmp .ge 107, 3) := by decide +kernel
theorem dX8_holds_85 : decode cX8_holds 85 = .ok (.aload_n 0, 1) := by decide +kernel
theorem dX8_holds_86 : decode cX8_holds 86 = .ok (.aload_n 0, 1) := by decide +kernel
theorem dX8_holds_87 : decode cX8_holds 87 = .ok (.getfield 21, 3) := by decide +kernel
theorem dX8_holds_90 : decode cX8_holds 90 = .ok (.iload 4, 2) := by decide +kernel
theorem dX8_holds_92 : decode cX8_holds 92 = .ok (.iconst 1, 1) := by decide +kernel
theorem dX8_holds_93 : decode cX8_holds 93 = .ok (.iadd, 1) := by decide +kernel
theorem dX8_holds_94 : decode cX8_holds 94 = .ok (.iaload, 1) := by decide +kernel
theorem dX8_holds_95 : decode cX8_holds 95 = .ok (.invokevirtual 50, 3) := by decide +kernel
theorem dX8_holds_98 : decode cX8_holds 98 = .ok (.istore 6, 2) := by decide +kernel
theorem dX8_holds_100 : decode cX8_holds 100 = .ok (.aload_n 0, 1) := by decide +kernel
theorem dX8_holds_101 : decode cX8_holds 101 = .ok (.aload_n 0, 1) := by decide +kernel
theorem dX8_holds_102 : decode cX8_holds 102 = .ok (.getfield 21, 3) := by decide +kernel
theorem dX8_holds_105 : decode cX8_holds 105 = .ok (.iload 4, 2) := by decide +kernel
theorem dX8_holds_107 : decode cX8_holds 107 = .ok (.iconst 2, 1) := by decide +kernel
theorem dX8_holds_108 : decode cX8_holds 108 = .ok (.iadd, 1) := by decide +kernel
theorem dX8_holds_109 : decode cX8_holds 109 = .ok (.iaload, 1) := by decide +kernel
theorem dX8_holds_110 : decode cX8_holds 110 = .ok (.invokevirtual 50, 3) := by decide +kernel
theorem dX8_holds_113 : decode cX8_holds 113 = .ok (.istore 7, 2) := by decide +kernel
theorem dX8_holds_115 : decode cX8_holds 115 = .ok (.iload 5, 2) := by decide +kernel
theorem dX8_holds_117 : decode cX8_holds 117 = .ok (.iconst 3, 1) := by decide +kernel
theorem dX8_holds_118 : decode cX8_holds 118 = .ok (.if_icmp .ne 18, 3) := by decide +kernel
theorem dX8_holds_121 : decode cX8_holds 121 = .ok (.iload 6, 2) := by decide +kernel
theorem dX8_holds_123 : decode cX8_holds 123 = .ok (.iload 7, 2) := by decide +kernel
theorem dX8_holds_125 : decode cX8_holds 125 = .ok (.if_icmp .ge 7, 3) := by decide +kernel
theorem dX8_holds_128 : decode cX8_holds 128 = .ok (.iconst 1, 1) := by decide +kernel
theorem dX8_holds_129 : decode cX8_holds 129 = .ok (.goto 40, 3) := by decide +kernel
theorem dX8_holds_132 : decode cX8_holds 132 = .ok (.iconst 0, 1) := by decide +kernel
theorem dX8_holds_133 : decode cX8_holds 133 = .ok (.goto 36, 3) := by decide +kernel
theorem dX8_holds_136 : decode cX8_holds 136 = .ok (.iload 5, 2) := by decide +kernel
theorem dX8_holds_138 : decode cX8_holds 138 = .ok (.iconst 4, 1) := by decide +kernel
theorem dX8_holds_139 : decode cX8_holds 139 = .ok (.if_icmp .ne 18, 3) := by decide +kernel
theorem dX8_holds_142 : decode cX8_holds 142 = .ok (.iload 6, 2) := by decide +kernel
theorem dX8_holds_144 : decode cX8_holds 144 = .ok (.iload 7, 2) := by decide +kernel
theorem dX8_holds_146 : decode cX8_holds 146 = .ok (.if_icmp .ne 7, 3) := by decide +kernel
theorem dX8_holds_149 : decode cX8_holds 149 = .ok (.iconst 1, 1) := by decide +kernel
theorem dX8_holds_150 : decode cX8_holds 150 = .ok (.goto 19, 3) := by decide +kernel
theorem dX8_holds_153 : decode cX8_holds 153 = .ok (.iconst 0, 1) := by decide +kernel
theorem dX8_holds_154 : decode cX8_holds 154 = .ok (.goto 15, 3) := by decide +kernel
theorem dX8_holds_157 : decode cX8_holds 157 = .ok (.iload 6, 2) := by decide +kernel
theorem dX8_holds_159 : decode cX8_holds 159 = .ok (.iload 7, 2) := by decide +kernel
theorem dX8_holds_161 : decode cX8_holds 161 = .ok (.if_icmp .le 7, 3) := by decide +kernel
theorem dX8_holds_164 : decode cX8_holds 164 = .ok (.iconst 1, 1) := by decide +kernel
theorem dX8_holds_165 : decode cX8_holds 165 = .ok (.goto 4, 3) := by decide +kernel
theorem dX8_holds_168 : decode cX8_holds 168 = .ok (.iconst 0, 1) := by decide +kernel
theorem dX8_holds_169 : decode cX8_holds 169 = .ok (.istore 8, 2) := by decide +kernel
theorem dX8_holds_171 : decode cX8_holds 171 = .ok (.iload_n 3, 1) := by decide +kernel
theorem dX8_holds_172 : decode cX8_holds 172 = .ok (.iconst 1, 1) := by decide +kernel
theorem dX8_holds_173 : decode cX8_holds 173 = .ok (.ishl, 1) := by decide +kernel
theorem dX8_holds_174 : decode cX8_holds 174 = .ok (.iload 8, 2) := by decide +kernel
theorem dX8_holds_176 : decode cX8_holds 176 = .ok (.ifCond .eq 7, 3) := by decide +kernel
theorem dX8_holds_179 : decode cX8_holds 179 = .ok (.iconst 1, 1) := by decide +kernel
theorem dX8_holds_180 : decode cX8_holds 180 = .ok (.goto 4, 3) := by decide +kernel
theorem dX8_holds_183 : decode cX8_holds 183 = .ok (.iconst 0, 1) := by decide +kernel
theorem dX8_holds_184 : decode cX8_holds 184 = .ok (.ior, 1) := by decide +kernel
theorem dX8_holds_185 : decode cX8_holds 185 = .ok (.istore_n 3, 1) := by decide +kernel
theorem dX8_holds_186 : decode cX8_holds 186 = .ok (.iinc 4 2, 3) := by decide +kernel
theorem dX8_holds_189 : decode cX8_holds 189 = .ok (.iinc 4 1, 3) := by decide +kernel
theorem dX8_holds_192 : decode cX8_holds 192 = .ok (.goto (-187), 3) := by decide +kernel
theorem dX8_holds_195 : decode cX8_holds 195 = .ok (.iload_n 3, 1) := by decide +kernel
theorem dX8_holds_196 : decode cX8_holds 196 = .ok (.iconst 1, 1) := by decide +kernel
theorem dX8_holds_197 : decode cX8_holds 197 = .ok (.iand, 1) := by decide +kernel
theorem dX8_holds_198 : decode cX8_holds 198 = .ok (.iconst 1, 1) := by decide +kernel
theorem dX8_holds_199 : decode cX8_holds 199 = .ok (.if_icmp .ne 7, 3) := by decide +kernel
theorem dX8_holds_202 : decode cX8_holds 202 = .ok (.iconst 1, 1) := by decide +kernel
theorem dX8_holds_203 : decode cX8_holds 203 = .ok (.goto 4, 3) := by decide +kernel
theorem dX8_holds_206 : decode cX8_holds 206 = .ok (.iconst 0, 1) := by decide +kernel
theorem dX8_holds_207 : decode cX8_holds 207 = .ok (.ireturn, 1) := by decide +kernel
theorem dX8_valueOf_0 : decode cX8_valueOf 0 = .ok (.iconst (-1), 1) := by decide +kernel
theorem dX8_valueOf_1 : decode cX8_valueOf 1 = .ok (.iload_n 1, 1) := by decide +kernel
theorem dX8_valueOf_2 : decode cX8_valueOf 2 = .ok (.isub, 1) := by decide +kernel
theorem dX8_valueOf_3 : decode cX8_valueOf 3 = .ok (.istore_n 2, 1) := by decide +kernel
theorem dX8_valueOf_4 : decode cX8_valueOf 4 = .ok (.iload_n 2, 1) := by decide +kernel
theorem dX8_valueOf_5 : decode cX8_valueOf 5 = .ok (.ifCond .lt 17, 3) := by decide +kernel
theorem dX8_valueOf_8 : decode cX8_valueOf 8 = .ok (.iload_n 2, 1) := by decide +kernel
theorem dX8_valueOf_9 : decode cX8_valueOf 9 = .ok (.iconst 5, 1) := by decide +kernel
theorem dX8_valueOf_10 : decode cX8_valueOf 10 = .ok (.if_icmp .ge 12, 3) := by decide +kernel
theorem dX8_valueOf_13 : decode cX8_valueOf 13 = .ok (.aload_n 0, 1) := by decide +kernel
theorem dX8_valueOf_14 : decode cX8_valueOf 14 = .ok (.getfield 24, 3) := by decide +kernel
theorem dX8_valueOf_17 : decode cX8_valueOf 17 = .ok (.iload_n 2, 1) := by decide +kernel
theorem dX8_valueOf_18 : decode cX8_valueOf 18 = .ok (.iaload, 1) := by decide +kernel
theorem dX8_valueOf_19 : decode cX8_valueOf 19 = .ok (.goto 4, 3) := by decide +kernel
theorem dX8_valueOf_22 : decode cX8_valueOf 22 = .ok (.iload_n 1, 1) := by decide +kernel
theorem dX8_valueOf_23 : decode cX8_valueOf 23 = .ok (.ireturn, 1) := by decide +kernel
theorem dX9_init_0 : decode cX9_init 0 = .ok (.aload_n 0, 1) := by decide +kernel
theorem dX9_init_1 : decode cX9_init 1 = .ok (.invokespecial 3, 3) := by decide +kernel
theorem dX9_init_4 : decode cX9_init 4 = .ok (.aload_n 0, 1) := by decide +kernel
theorem dX9_init_5 : decode cX9_init 5 = .ok (.bipush 6, 2) := by decide +kernel
theorem dX9_init_7 : decode cX9_init 7 = .ok (.anewarray 9, 3) := by decide +kernel
theorem dX9_init_10 : decode cX9_init 10 = .ok (.dup, 1) := by decide +kernel
theorem dX9_init_11 : decode cX9_init 11 = .ok (.iconst 0, 1) := by decide +kernel
theorem dX9_init_12 : decode cX9_init 12 = .ok (.new 9, 3) := by decide +kernel
theorem dX9_init_15 : decode cX9_init 15 = .ok (.dup, 1) := by decide +kernel
theorem dX9_init_16 : decode cX9_init 16 = .ok (.invokespecial 11, 3) := by decide +kernel
theorem dX9_init_19 : decode cX9_init 19 = .ok (.aastore, 1) := by decide +kernel
theorem dX9_init_20 : decode cX9_init 20 = .ok (.dup, 1) := by decide +kernel
theorem dX9_init_21 : decode cX9_init 21 = .ok (.iconst 1, 1) := by decide +kernel
theorem dX9_init_22 : decode cX9_init 22 = .ok (.new 12, 3) := by decide +kernel
theorem dX9_init_25 : decode cX9_init 25 = .ok (.dup, 1) := by decide +kernel
theorem dX9_init_26 : decode cX9_init 26 = .ok (.invokespecial 14, 3) := by decide +kernel
theorem dX9_init_29 : decode cX9_init 29 = .ok (.aastore, 1) := by decide +kernel
theorem dX9_init_30 : decode cX9_init 30 = .ok (.dup, 1) := by decide +kernel
theorem dX9_init_31 : decode cX9_init 31 = .ok (.iconst 2, 1) := by decide +kernel
theorem dX9_init_32 : decode cX9_init 32 = .ok (.new 15, 3) := by decide +kernel
theorem dX9_init_35 : decode cX9_init 35 = .ok (.dup, 1) := by decide +kernel
theorem dX9_init_36 : decode cX9_init 36 = .ok (.invokespecial 17, 3) := by decide +kernel
theorem dX9_init_39 : decode cX9_init 39 = .ok (.aastore, 1) := by decide +kernel
theorem dX9_init_40 : decode cX9_init 40 = .ok (.dup, 1) := by decide +kernel
theorem dX9_init_41 : decode cX9_init 41 = .ok (.iconst 3, 1) := by decide +kernel
theorem dX9_init_42 : decode cX9_init 42 = .ok (.new 18, 3) := by decide +kernel
theorem dX9_init_45 : decode cX9_init 45 = .ok (.dup, 1) := by decide +kernel
theorem dX9_init_46 : decode cX9_init 46 = .ok (.invokespecial 20, 3) := by decide +kernel
theorem dX9_init_49 : decode cX9_init 49 = .ok (.aastore, 1) := by decide +kernel
theorem dX9_init_50 : decode cX9_init 50 = .ok (.dup, 1) := by decide +kernel
theorem dX9_init_51 : decode cX9_init 51 = .ok (.iconst 4, 1) := by decide +kernel
theorem dX9_init_52 : decode cX9_init 52 = .ok (.new 21, 3) := by decide +kernel
theorem dX9_init_55 : decode cX9_init 55 = .ok (.dup, 1) := by decide +kernel
theorem dX9_init_56 : decode cX9_init 56 = .ok (.invokespecial 23, 3) := by decide +kernel
theorem dX9_init_59 : decode cX9_init 59 = .ok (.aastore, 1) := by decide +kernel
theorem dX9_init_60 : decode cX9_init 60 = .ok (.dup, 1) := by decide +kernel
theorem dX9_init_61 : decode cX9_init 61 = .ok (.iconst 5, 1) := by decide +kernel
theorem dX9_init_62 : decode cX9_init 62 = .ok (.new 24, 3) := by decide +kernel
theorem dX9_init_65 : decode cX9_init 65 = .ok (.dup, 1) := by decide +kernel
theorem dX9_init_66 : decode cX9_init 66 = .ok (.invokespecial 26, 3) := by decide +kernel
theorem dX9_init_69 : decode cX9_init 69 = .ok (.aastore, 1) := by decide +kernel
theorem dX9_init_70 : decode cX9_init 70 = .ok (.putfield 27, 3) := by decide +kernel
theorem dX9_init_73 : decode cX9_init 73 = .ok (.aload_n 0, 1) := by decide +kernel
theorem dX9_init_74 : decode cX9_init 74 = .ok (.new 33, 3) := by decide +kernel
theorem dX9_init_77 : decode cX9_init 77 = .ok (.dup, 1) := by decide +kernel
theorem dX9_init_78 : decode cX9_init 78 = .ok (.invokespecial 35, 3) := by decide +kernel
theorem dX9_init_81 : decode cX9_init 81 = .ok (.putfield 36, 3) := by decide +kernel
theorem dX9_init_84 : decode cX9_init 84 = .ok (.aload_n 0, 1) := by decide +kernel
theorem dX9_init_85 : decode cX9_init 85 = .ok (.bipush 12, 2) := by decide +kernel
theorem dX9_init_87 : decode cX9_init 87 = .ok (.putfield 40, 3) := by decide +kernel
theorem dX9_init_90 : decode cX9_init 90 = .ok (.aload_n 0, 1) := by decide +kernel
theorem dX9_init_91 : decode cX9_init 91 = .ok (.iconst 5, 1) := by decide +kernel
theorem dX9_init_92 : decode cX9_init 92 = .ok (.putfield 44, 3) := by decide +kernel
theorem dX9_init_95 : decode cX9_init 95 = .ok (.aload_n 0, 1) := by decide +kernel
theorem dX9_init_96 : decode cX9_init 96 = .ok (.iconst 1, 1) := by decide +kernel
theorem dX9_init_97 : decode cX9_init 97 = .ok (.putfield 47, 3) := by decide +kernel
theorem dX9_init_100 : decode cX9_init 100 = .ok (.aload_n 0, 1) := by decide +kernel
theorem dX9_init_101 : decode cX9_init 101 = .ok (.bipush 16, 2) := by decide +kernel
theorem dX9_init_103 : decode cX9_init 103 = .ok (.newarray .int, 2) := by decide +kernel
theorem dX9_init_105 : decode cX9_init 105 = .ok (.putfield 50, 3) := by decide +kernel
theorem dX9_init_108 : decode cX9_init 108 = .ok (.aload_n 0, 1) := by decide +kernel
theorem dX9_init_109 : decode cX9_init 109 = .ok (.bipush 6, 2) := by decide +kernel
theorem dX9_init_111 : decode cX9_init 111 = .ok (.newarray .int, 2) := by decide +kernel
theorem dX9_init_113 : decode cX9_init 113 = .ok (.putfield 54, 3) := by decide +kernel
theorem dX9_init_116 : decode cX9_init 116 = .ok (.aload_n 0, 1) := by decide +kernel
theorem dX9_init_117 : decode cX9_init 117 = .ok (.bipush 6, 2) := by decide +kernel
theorem dX9_init_119 : decode cX9_init 119 = .ok (.newarray .int, 2) := by decide +kernel
theorem dX9_init_121 : decode cX9_init 121 = .ok (.putfield 57, 3) := by decide +kernel
theorem dX9_init_124 : decode cX9_init 124 = .ok (.aload_n 0, 1) := by decide +kernel
theorem dX9_init_125 : decode cX9_init 125 = .ok (.bipush 6, 2) := by decide +kernel
theorem dX9_init_127 : decode cX9_init 127 = .ok (.newarray .int, 2) := by decide +kernel
theorem dX9_init_129 : decode cX9_init 129 = .ok (.putfield 60, 3) := by decide +kernel
theorem dX9_init_132 : decode cX9_init 132 = .ok (.aload_n 0, 1) := by decide +kernel
theorem dX9_init_133 : decode cX9_init 133 = .ok (.bipush 6, 2) := by decide +kernel
theorem dX9_init_135 : decode cX9_init 135 = .ok (.newarray .int, 2) := by decide +kernel
theorem dX9_init_137 : decode cX9_init 137 = .ok (.putfield 63, 3) := by decide +kernel
theorem dX9_init_140 : decode cX9_init 140 = .ok (.aload_n 0, 1) := by decide +kernel
theorem dX9_init_141 : decode cX9_init 141 = .ok (.bipush 6, 2) := by decide +kernel
theorem dX9_init_143 : decode cX9_init 143 = .ok (.newarray .int, 2) := by decide +kernel
theorem dX9_init_145 : decode cX9_init 145 = .ok (.putfield 66, 3) := by decide +kernel
theorem dX9_init_148 : decode cX9_init 148 = .ok (.aload_n 0, 1) := by decide +kernel
theorem dX9_init_149 : decode cX9_init 149 = .ok (.bipush 6, 2) := by decide +kernel
theorem dX9_init_151 : decode cX9_init 151 = .ok (.newarray .int, 2) := by decide +kernel
theorem dX9_init_153 : decode cX9_init 153 = .ok (.putfield 69, 3) := by decide +kernel
theorem dX9_init_156 : decode cX9_init 156 = .ok (.aload_n 0, 1) := by decide +kernel
theorem dX9_init_157 : decode cX9_init 157 = .ok (.bipush 24, 2) := by decide +kernel
theorem dX9_init_159 : decode cX9_init 159 = .ok (.newarray .int, 2) := by decide +kernel
theorem dX9_init_161 : decode cX9_init 161 = .ok (.putfield 72, 3) := by decide +kernel
theorem dX9_init_164 : decode cX9_init 164 = .ok (.aload_n 0, 1) := by decide +kernel
theorem dX9_init_165 : decode cX9_init 165 = .ok (.getfield 50, 3) := by decide +kernel
theorem dX9_init_168 : decode cX9_init 168 = .ok (.iconst 4, 1) := by decide +kernel
theorem dX9_init_169 : decode cX9_init 169 = .ok (.invokestatic 75, 3) := by decide +kernel
theorem dX9_init_172 : decode cX9_init 172 = .ok (.aload_n 0, 1) := by decide +kernel
theorem dX9_init_173 : decode cX9_init 173 = .ok (.getfield 57, 3) := by decide +kernel
theorem dX9_init_176 : decode cX9_init 176 = .ok (.iconst 3, 1) := by decide +kernel
theorem dX9_init_177 : decode cX9_init 177 = .ok (.invokestatic 75, 3) := by decide +kernel
theorem dX9_init_180 : decode cX9_init 180 = .ok (.return_, 1) := by decide +kernel
theorem dX9_copyFrom_0 : decode cX9_copyFrom 0 = .ok (.aload_n 0, 1) := by decide +kernel
theorem dX9_copyFrom_1 : decode cX9_copyFrom 1 = .ok (.getfield 36, 3) := by decide +kernel
theorem dX9_copyFrom_4 : decode cX9_copyFrom 4 = .ok (.aload_n 1, 1) := by decide +kernel
theorem dX9_copyFrom_5 : decode cX9_copyFrom 5 = .ok (.getfield 36, 3) := by decide +kernel
theorem dX9_copyFrom_8 : decode cX9_copyFrom 8 = .ok (.invokevirtual 81, 3) := by decide +kernel
theorem dX9_copyFrom_11 : decode cX9_copyFrom 11 = .ok (.aload_n 0, 1) := by decide +kernel
theorem dX9_copyFrom_12 : decode cX9_copyFrom 12 = .ok (.aload_n 1, 1) := by decide +kernel
theorem dX9_copyFrom_13 : decode cX9_copyFrom 13 = .ok (.invokevirtual 85, 3) := by decide +kernel
theorem dX9_copyFrom_16 : decode cX9_copyFrom 16 = .ok (.invokevirtual 89, 3) := by decide +kernel
theorem dX9_copyFrom_19 : decode cX9_copyFrom 19 = .ok (.aload_n 0, 1) := by decide +kernel
theorem dX9_copyFrom_20 : decode cX9_copyFrom 20 = .ok (.aload_n 1, 1) := by decide +kernel
theorem dX9_copyFrom_21 : decode cX9_copyFrom 21 = .ok (.getfield 40, 3) := by decide +kernel
theorem dX9_copyFrom_24 : decode cX9_copyFrom 24 = .ok (.putfield 40, 3) := by decide +kernel
theorem dX9_copyFrom_27 : decode cX9_copyFrom 27 = .ok (.aload_n 0, 1) := by decide +kernel
