theorem dX5_init_0 : decode cX5_init 0 = .ok (.aload_n 0, 1) := by decide +kernel
theorem dX5_init_1 : decode cX5_init 1 = .ok (.invokespecial 1, 3) := by decide +kernel
theorem dX5_init_4 : decode cX5_init 4 = .ok (.aload_n 0, 1) := by decide +kernel
theorem dX5_init_5 : decode cX5_init 5 = .ok (.iconst 0, 1) := by decide +kernel
theorem dX5_init_6 : decode cX5_init 6 = .ok (.putfield 7, 3) := by decide +kernel
theorem dX5_init_9 : decode cX5_init 9 = .ok (.aload_n 0, 1) := by decide +kernel
theorem dX5_init_10 : decode cX5_init 10 = .ok (.iconst 4, 1) := by decide +kernel
theorem dX5_init_11 : decode cX5_init 11 = .ok (.newarray .int, 2) := by decide +kernel
theorem dX5_init_13 : decode cX5_init 13 = .ok (.dup, 1) := by decide +kernel
theorem dX5_init_14 : decode cX5_init 14 = .ok (.iconst 0, 1) := by decide +kernel
theorem dX5_init_15 : decode cX5_init 15 = .ok (.iconst 2, 1) := by decide +kernel
theorem dX5_init_16 : decode cX5_init 16 = .ok (.iastore, 1) := by decide +kernel
theorem dX5_init_17 : decode cX5_init 17 = .ok (.dup, 1) := by decide +kernel
theorem dX5_init_18 : decode cX5_init 18 = .ok (.iconst 1, 1) := by decide +kernel
theorem dX5_init_19 : decode cX5_init 19 = .ok (.bipush 100, 2) := by decide +kernel
theorem dX5_init_21 : decode cX5_init 21 = .ok (.iastore, 1) := by decide +kernel
theorem dX5_init_22 : decode cX5_init 22 = .ok (.dup, 1) := by decide +kernel
theorem dX5_init_23 : decode cX5_init 23 = .ok (.iconst 2, 1) := by decide +kernel
theorem dX5_init_24 : decode cX5_init 24 = .ok (.bipush 10, 2) := by decide +kernel
theorem dX5_init_26 : decode cX5_init 26 = .ok (.iastore, 1) := by decide +kernel
theorem dX5_init_27 : decode cX5_init 27 = .ok (.dup, 1) := by decide +kernel
theorem dX5_init_28 : decode cX5_init 28 = .ok (.iconst 3, 1) := by decide +kernel
theorem dX5_init_29 : decode cX5_init 29 = .ok (.ldc 13, 2) := by decide +kernel
theorem dX5_init_31 : decode cX5_init 31 = .ok (.iastore, 1) := by decide +kernel
theorem dX5_init_32 : decode cX5_init 32 = .ok (.putfield 14, 3) := by decide +kernel
theorem dX5_init_35 : decode cX5_init 35 = .ok (.aload_n 0, 1) := by decide +kernel
theorem dX5_init_36 : decode cX5_init 36 = .ok (.new 18, 3) := by decide +kernel
theorem dX5_init_39 : decode cX5_init 39 = .ok (.dup, 1) := by decide +kernel
theorem dX5_init_40 : decode cX5_init 40 = .ok (.invokespecial 20, 3) := by decide +kernel
theorem dX5_init_43 : decode cX5_init 43 = .ok (.putfield 21, 3) := by decide +kernel
theorem dX5_init_46 : decode cX5_init 46 = .ok (.aload_n 0, 1) := by decide +kernel
theorem dX5_init_47 : decode cX5_init 47 = .ok (.new 25, 3) := by decide +kernel
theorem dX5_init_50 : decode cX5_init 50 = .ok (.dup, 1) := by decide +kernel
theorem dX5_init_51 : decode cX5_init 51 = .ok (.invokespecial 27, 3) := by decide +kernel
theorem dX5_init_54 : decode cX5_init 54 = .ok (.putfield 28, 3) := by decide +kernel
theorem dX5_init_57 : decode cX5_init 57 = .ok (.aload_n 0, 1) := by decide +kernel
theorem dX5_init_58 : decode cX5_init 58 = .ok (.new 32, 3) := by decide +kernel
theorem dX5_init_61 : decode cX5_init 61 = .ok (.dup, 1) := by decide +kernel
theorem dX5_init_62 : decode cX5_init 62 = .ok (.invokespecial 34, 3) := by decide +kernel
theorem dX5_init_65 : decode cX5_init 65 = .ok (.putfield 35, 3) := by decide +kernel
theorem dX5_init_68 : decode cX5_init 68 = .ok (.aload_n 0, 1) := by decide +kernel
theorem dX5_init_69 : decode cX5_init 69 = .ok (.new 39, 3) := by decide +kernel
theorem dX5_init_72 : decode cX5_init 72 = .ok (.dup, 1) := by decide +kernel
theorem dX5_init_73 : decode cX5_init 73 = .ok (.invokespecial 41, 3) := by decide +kernel
theorem dX5_init_76 : decode cX5_init 76 = .ok (.putfield 42, 3) := by decide +kernel
theorem dX5_init_79 : decode cX5_init 79 = .ok (.aload_n 0, 1) := by decide +kernel
theorem dX5_init_80 : decode cX5_init 80 = .ok (.new 46, 3) := by decide +kernel
theorem dX5_init_83 : decode cX5_init 83 = .ok (.dup, 1) := by decide +kernel
theorem dX5_init_84 : decode cX5_init 84 = .ok (.invokespecial 48, 3) := by decide +kernel
theorem dX5_init_87 : decode cX5_init 87 = .ok (.putfield 49, 3) := by decide +kernel
theorem dX5_init_90 : decode cX5_init 90 = .ok (.return_, 1) := by decide +kernel
theorem dX5_rule_0 : decode cX5_rule 0 = .ok (.iload_n 1, 1) := by decide +kernel
theorem dX5_rule_1 : decode cX5_rule 1 = .ok (.ifCond .lt 8, 3) := by decide +kernel
theorem dX5_rule_4 : decode cX5_rule 4 = .ok (.iload_n 1, 1) := by decide +kernel
theorem dX5_rule_5 : decode cX5_rule 5 = .ok (.iconst 4, 1) := by decide +kernel
theorem dX5_rule_6 : decode cX5_rule 6 = .ok (.if_icmp .lt 5, 3) := by decide +kernel
theorem dX5_rule_9 : decode cX5_rule 9 = .ok (.iconst (-1), 1) := by decide +kernel
theorem dX5_rule_10 : decode cX5_rule 10 = .ok (.ireturn, 1) := by decide +kernel
theorem dX5_rule_11 : decode cX5_rule 11 = .ok (.iload_n 2, 1) := by decide +kernel
theorem dX5_rule_12 : decode cX5_rule 12 = .ok (.getstatic 53, 3) := by decide +kernel
theorem dX5_rule_15 : decode cX5_rule 15 = .ok (.iload_n 1, 1) := by decide +kernel
theorem dX5_rule_16 : decode cX5_rule 16 = .ok (.iaload, 1) := by decide +kernel
theorem dX5_rule_17 : decode cX5_rule 17 = .ok (.getstatic 56, 3) := by decide +kernel
theorem dX5_rule_20 : decode cX5_rule 20 = .ok (.iload_n 1, 1) := by decide +kernel
theorem dX5_rule_21 : decode cX5_rule 21 = .ok (.iaload, 1) := by decide +kernel
theorem dX5_rule_22 : decode cX5_rule 22 = .ok (.invokestatic 59, 3) := by decide +kernel
theorem dX5_rule_25 : decode cX5_rule 25 = .ok (.ifCond .ne 5, 3) := by decide +kernel
theorem dX5_rule_28 : decode cX5_rule 28 = .ok (.iconst (-1), 1) := by decide +kernel
theorem dX5_rule_29 : decode cX5_rule 29 = .ok (.ireturn, 1) := by decide +kernel
theorem dX5_rule_30 : decode cX5_rule 30 = .ok (.aload_n 0, 1) := by decide +kernel
theorem dX5_rule_31 : decode cX5_rule 31 = .ok (.getfield 7, 3) := by decide +kernel
theorem dX5_rule_34 : decode cX5_rule 34 = .ok (.ifCond .le 6, 3) := by decide +kernel
theorem dX5_rule_37 : decode cX5_rule 37 = .ok (.bipush (-4), 2) := by decide +kernel
theorem dX5_rule_39 : decode cX5_rule 39 = .ok (.ireturn, 1) := by decide +kernel
theorem dX5_rule_40 : decode cX5_rule 40 = .ok (.aload_n 0, 1) := by decide +kernel
theorem dX5_rule_41 : decode cX5_rule 41 = .ok (.getfield 14, 3) := by decide +kernel
theorem dX5_rule_44 : decode cX5_rule 44 = .ok (.iload_n 1, 1) := by decide +kernel
theorem dX5_rule_45 : decode cX5_rule 45 = .ok (.iaload, 1) := by decide +kernel
theorem dX5_rule_46 : decode cX5_rule 46 = .ok (.istore_n 3, 1) := by decide +kernel
theorem dX5_rule_47 : decode cX5_rule 47 = .ok (.aload_n 0, 1) := by decide +kernel
theorem dX5_rule_48 : decode cX5_rule 48 = .ok (.getfield 14, 3) := by decide +kernel
theorem dX5_rule_51 : decode cX5_rule 51 = .ok (.iload_n 1, 1) := by decide +kernel
theorem dX5_rule_52 : decode cX5_rule 52 = .ok (.iload_n 2, 1) := by decide +kernel
theorem dX5_rule_53 : decode cX5_rule 53 = .ok (.iastore, 1) := by decide +kernel
theorem dX5_rule_54 : decode cX5_rule 54 = .ok (.iload_n 3, 1) := by decide +kernel
theorem dX5_rule_55 : decode cX5_rule 55 = .ok (.ireturn, 1) := by decide +kernel
theorem dX5_fund_0 : decode cX5_fund 0 = .ok (.iload_n 1, 1) := by decide +kernel
theorem dX5_fund_1 : decode cX5_fund 1 = .ok (.invokestatic 63, 3) := by decide +kernel
theorem dX5_fund_4 : decode cX5_fund 4 = .ok (.ifCond .eq 13, 3) := by decide +kernel
theorem dX5_fund_7 : decode cX5_fund 7 = .ok (.iload_n 2, 1) := by decide +kernel
theorem dX5_fund_8 : decode cX5_fund 8 = .ok (.iconst 1, 1) := by decide +kernel
theorem dX5_fund_9 : decode cX5_fund 9 = .ok (.ldc 67, 2) := by decide +kernel
theorem dX5_fund_11 : decode cX5_fund 11 = .ok (.invokestatic 59, 3) := by decide +kernel
theorem dX5_fund_14 : decode cX5_fund 14 = .ok (.ifCond .ne 5, 3) := by decide +kernel
theorem dX5_fund_17 : decode cX5_fund 17 = .ok (.iconst (-1), 1) := by decide +kernel
theorem dX5_fund_18 : decode cX5_fund 18 = .ok (.ireturn, 1) := by decide +kernel
theorem dX5_fund_19 : decode cX5_fund 19 = .ok (.aload_n 0, 1) := by decide +kernel
theorem dX5_fund_20 : decode cX5_fund 20 = .ok (.getfield 21, 3) := by decide +kernel
theorem dX5_fund_23 : decode cX5_fund 23 = .ok (.getfield 68, 3) := by decide +kernel
theorem dX5_fund_26 : decode cX5_fund 26 = .ok (.iload_n 2, 1) := by decide +kernel
theorem dX5_fund_27 : decode cX5_fund 27 = .ok (.iadd, 1) := by decide +kernel
theorem dX5_fund_28 : decode cX5_fund 28 = .ok (.ldc 13, 2) := by decide +kernel
theorem dX5_fund_30 : decode cX5_fund 30 = .ok (.if_icmp .le 6, 3) := by decide +kernel
theorem dX5_fund_33 : decode cX5_fund 33 = .ok (.bipush (-3), 2) := by decide +kernel
theorem dX5_fund_35 : decode cX5_fund 35 = .ok (.ireturn, 1) := by decide +kernel
theorem dX5_fund_36 : decode cX5_fund 36 = .ok (.aload_n 0, 1) := by decide +kernel
theorem dX5_fund_37 : decode cX5_fund 37 = .ok (.getfield 21, 3) := by decide +kernel
theorem dX5_fund_40 : decode cX5_fund 40 = .ok (.dup, 1) := by decide +kernel
theorem dX5_fund_41 : decode cX5_fund 41 = .ok (.getfield 68, 3) := by decide +kernel
theorem dX5_fund_44 : decode cX5_fund 44 = .ok (.iload_n 2, 1) := by decide +kernel
theorem dX5_fund_45 : decode cX5_fund 45 = .ok (.iadd, 1) := by decide +kernel
theorem dX5_fund_46 : decode cX5_fund 46 = .ok (.putfield 68, 3) := by decide +kernel
theorem dX5_fund_49 : decode cX5_fund 49 = .ok (.aload_n 0, 1) := by decide +kernel
theorem dX5_fund_50 : decode cX5_fund 50 = .ok (.getfield 21, 3) := by decide +kernel
theorem dX5_fund_53 : decode cX5_fund 53 = .ok (.getfield 71, 3) := by decide +kernel
theorem dX5_fund_56 : decode cX5_fund 56 = .ok (.iload_n 1, 1) := by decide +kernel
theorem dX5_fund_57 : decode cX5_fund 57 = .ok (.dup2, 1) := by decide +kernel
theorem dX5_fund_58 : decode cX5_fund 58 = .ok (.iaload, 1) := by decide +kernel
theorem dX5_fund_59 : decode cX5_fund 59 = .ok (.iload_n 2, 1) := by decide +kernel
theorem dX5_fund_60 : decode cX5_fund 60 = .ok (.iadd, 1) := by decide +kernel
theorem dX5_fund_61 : decode cX5_fund 61 = .ok (.iastore, 1) := by decide +kernel
theorem dX5_fund_62 : decode cX5_fund 62 = .ok (.aload_n 0, 1) := by decide +kernel
theorem dX5_fund_63 : decode cX5_fund 63 = .ok (.getfield 21, 3) := by decide +kernel
theorem dX5_fund_66 : decode cX5_fund 66 = .ok (.getfield 71, 3) := by decide +kernel
theorem dX5_fund_69 : decode cX5_fund 69 = .ok (.iload_n 1, 1) := by decide +kernel
theorem dX5_fund_70 : decode cX5_fund 70 = .ok (.iaload, 1) := by decide +kernel
theorem dX5_fund_71 : decode cX5_fund 71 = .ok (.ireturn, 1) := by decide +kernel
theorem dX5_node_0 : decode cX5_node 0 = .ok (.iload_n 1, 1) := by decide +kernel
theorem dX5_node_1 : decode cX5_node 1 = .ok (.invokestatic 63, 3) := by decide +kernel
theorem dX5_node_4 : decode cX5_node 4 = .ok (.ifCond .eq 13, 3) := by decide +kernel
theorem dX5_node_7 : decode cX5_node 7 = .ok (.iload_n 2, 1) := by decide +kernel
theorem dX5_node_8 : decode cX5_node 8 = .ok (.iconst 0, 1) := by decide +kernel
theorem dX5_node_9 : decode cX5_node 9 = .ok (.bipush 100, 2) := by decide +kernel
theorem dX5_node_11 : decode cX5_node 11 = .ok (.invokestatic 59, 3) := by decide +kernel
theorem dX5_node_14 : decode cX5_node 14 = .ok (.ifCond .ne 5, 3) := by decide +kernel
theorem dX5_node_17 : decode cX5_node 17 = .ok (.iconst (-1), 1) := by decide +kernel
theorem dX5_node_18 : decode cX5_node 18 = .ok (.ireturn, 1) := by decide +kernel
theorem dX5_node_19 : decode cX5_node 19 = .ok (.aload_n 0, 1) := by decide +kernel
theorem dX5_node_20 : decode cX5_node 20 = .ok (.getfield 28, 3) := by decide +kernel
theorem dX5_node_23 : decode cX5_node 23 = .ok (.getfield 74, 3) := by decide +kernel
theorem dX5_node_26 : decode cX5_node 26 = .ok (.bipush 8, 2) := by decide +kernel
theorem dX5_node_28 : decode cX5_node 28 = .ok (.if_icmp .lt 6, 3) := by decide +kernel
theorem dX5_node_31 : decode cX5_node 31 = .ok (.bipush (-3), 2) := by decide +kernel
theorem dX5_node_33 : decode cX5_node 33 = .ok (.ireturn, 1) := by decide +kernel
theorem dX5_node_34 : decode cX5_node 34 = .ok (.aload_n 0, 1) := by decide +kernel
theorem dX5_node_35 : decode cX5_node 35 = .ok (.getfield 28, 3) := by decide +kernel
theorem dX5_node_38 : decode cX5_node 38 = .ok (.iload_n 1, 1) := by decide +kernel
theorem dX5_node_39 : decode cX5_node 39 = .ok (.iload_n 2, 1) := by decide +kernel
theorem dX5_node_40 : decode cX5_node 40 = .ok (.invokevirtual 77, 3) := by decide +kernel
theorem dX5_node_43 : decode cX5_node 43 = .ok (.ireturn, 1) := by decide +kernel
theorem dX5_stake_0 : decode cX5_stake 0 = .ok (.aload_n 0, 1) := by decide +kernel
theorem dX5_stake_1 : decode cX5_stake 1 = .ok (.iload_n 1, 1) := by decide +kernel
theorem dX5_stake_2 : decode cX5_stake 2 = .ok (.iload_n 2, 1) := by decide +kernel
theorem dX5_stake_3 : decode cX5_stake 3 = .ok (.iload_n 3, 1) := by decide +kernel
theorem dX5_stake_4 : decode cX5_stake 4 = .ok (.invokevirtual 81, 3) := by decide +kernel
theorem dX5_stake_7 : decode cX5_stake 7 = .ok (.ifCond .ne 5, 3) := by decide +kernel
theorem dX5_stake_10 : decode cX5_stake 10 = .ok (.iconst (-1), 1) := by decide +kernel
theorem dX5_stake_11 : decode cX5_stake 11 = .ok (.ireturn, 1) := by decide +kernel
theorem dX5_stake_12 : decode cX5_stake 12 = .ok (.aload_n 0, 1) := by decide +kernel
theorem dX5_stake_13 : decode cX5_stake 13 = .ok (.getfield 21, 3) := by decide +kernel
theorem dX5_stake_16 : decode cX5_stake 16 = .ok (.getfield 71, 3) := by decide +kernel
theorem dX5_stake_19 : decode cX5_stake 19 = .ok (.iload_n 1, 1) := by decide +kernel
theorem dX5_stake_20 : decode cX5_stake 20 = .ok (.iaload, 1) := by decide +kernel
theorem dX5_stake_21 : decode cX5_stake 21 = .ok (.iload_n 3, 1) := by decide +kernel
theorem dX5_stake_22 : decode cX5_stake 22 = .ok (.if_icmp .ge 6, 3) := by decide +kernel
theorem dX5_stake_25 : decode cX5_stake 25 = .ok (.bipush (-3), 2) := by decide +kernel
theorem dX5_stake_27 : decode cX5_stake 27 = .ok (.ireturn, 1) := by decide +kernel
theorem dX5_stake_28 : decode cX5_stake 28 = .ok (.aload_n 0, 1) := by decide +kernel
theorem dX5_stake_29 : decode cX5_stake 29 = .ok (.getfield 21, 3) := by decide +kernel
theorem dX5_stake_32 : decode cX5_stake 32 = .ok (.getfield 71, 3) := by decide +kernel
theorem dX5_stake_35 : decode cX5_stake 35 = .ok (.iload_n 1, 1) := by decide +kernel
theorem dX5_stake_36 : decode cX5_stake 36 = .ok (.dup2, 1) := by decide +kernel
theorem dX5_stake_37 : decode cX5_stake 37 = .ok (.iaload, 1) := by decide +kernel
theorem dX5_stake_38 : decode cX5_stake 38 = .ok (.iload_n 3, 1) := by decide +kernel
theorem dX5_stake_39 : decode cX5_stake 39 = .ok (.isub, 1) := by decide +kernel
theorem dX5_stake_40 : decode cX5_stake 40 = .ok (.iastore, 1) := by decide +kernel
theorem dX5_stake_41 : decode cX5_stake 41 = .ok (.iload_n 2, 1) := by decide +kernel
theorem dX5_stake_42 : decode cX5_stake 42 = .ok (.iload_n 1, 1) := by decide +kernel
theorem dX5_stake_43 : decode cX5_stake 43 = .ok (.invokestatic 84, 3) := by decide +kernel
theorem dX5_stake_46 : decode cX5_stake 46 = .ok (.istore 4, 2) := by decide +kernel
theorem dX5_stake_48 : decode cX5_stake 48 = .ok (.aload_n 0, 1) := by decide +kernel
theorem dX5_stake_49 : decode cX5_stake 49 = .ok (.getfield 21, 3) := by decide +kernel
theorem dX5_stake_52 : decode cX5_stake 52 = .ok (.getfield 87, 3) := by decide +kernel
theorem dX5_stake_55 : decode cX5_stake 55 = .ok (.iload 4, 2) := by decide +kernel
theorem dX5_stake_57 : decode cX5_stake 57 = .ok (.dup2, 1) := by decide +kernel
theorem dX5_stake_58 : decode cX5_stake 58 = .ok (.iaload, 1) := by decide +kernel
theorem dX5_stake_59 : decode cX5_stake 59 = .ok (.iload_n 3, 1) := by decide +kernel
theorem dX5_stake_60 : decode cX5_stake 60 = .ok (.iadd, 1) := by decide +kernel
theorem dX5_stake_61 : decode cX5_stake 61 = .ok (.iastore, 1) := by decide +kernel
theorem dX5_stake_62 : decode cX5_stake 62 = .ok (.aload_n 0, 1) := by decide +kernel
theorem dX5_stake_63 : decode cX5_stake 63 = .ok (.getfield 21, 3) := by decide +kernel
theorem dX5_stake_66 : decode cX5_stake 66 = .ok (.getfield 87, 3) := by decide +kernel
theorem dX5_stake_69 : decode cX5_stake 69 = .ok (.iload 4, 2) := by decide +kernel
theorem dX5_stake_71 : decode cX5_stake 71 = .ok (.iaload, 1) := by decide +kernel
theorem dX5_stake_72 : decode cX5_stake 72 = .ok (.ireturn, 1) := by decide +kernel
theorem dX5_draw_0 : decode cX5_draw 0 = .ok (.aload_n 0, 1) := by decide +kernel
theorem dX5_draw_1 : decode cX5_draw 1 = .ok (.iload_n 1, 1) := by decide +kernel
theorem dX5_draw_2 : decode cX5_draw 2 = .ok (.iload_n 2, 1) := by decide +kernel
theorem dX5_draw_3 : decode cX5_draw 3 = .ok (.iload_n 3, 1) := by decide +kernel
theorem dX5_draw_4 : decode cX5_draw 4 = .ok (.invokevirtual 81, 3) := by decide +kernel
theorem dX5_draw_7 : decode cX5_draw 7 = .ok (.ifCond .ne 5, 3) := by decide +kernel
theorem dX5_draw_10 : decode cX5_draw 10 = .ok (.iconst (-1), 1) := by decide +kernel
theorem dX5_draw_11 : decode cX5_draw 11 = .ok (.ireturn, 1) := by decide +kernel
theorem dX5_draw_12 : decode cX5_draw 12 = .ok (.iload_n 2, 1) := by decide +kernel
theorem dX5_draw_13 : decode cX5_draw 13 = .ok (.iload_n 1, 1) := by decide +kernel
theorem dX5_draw_14 : decode cX5_draw 14 = .ok (.invokestatic 84, 3) := by decide +kernel
theorem dX5_draw_17 : decode cX5_draw 17 = .ok (.istore 4, 2) := by decide +kernel
theorem dX5_draw_19 : decode cX5_draw 19 = .ok (.aload_n 0, 1) := by decide +kernel
theorem dX5_draw_20 : decode cX5_draw 20 = .ok (.getfield 21, 3) := by decide +kernel
theorem dX5_draw_23 : decode cX5_draw 23 = .ok (.getfield 87, 3) := by decide +kernel
theorem dX5_draw_26 : decode cX5_draw 26 = .ok (.iload 4, 2) := by decide +kernel
theorem dX5_draw_28 : decode cX5_draw 28 = .ok (.iaload, 1) := by decide +kernel
theorem dX5_draw_29 : decode cX5_draw 29 = .ok (.iload_n 3, 1) := by decide +kernel
theorem dX5_draw_30 : decode cX5_draw 30 = .ok (.if_icmp .ge 6, 3) := by decide +kernel
theorem dX5_draw_33 : decode cX5_draw 33 = .ok (.bipush (-3), 2) := by decide +kernel
theorem dX5_draw_35 : decode cX5_draw 35 = .ok (.ireturn, 1) := by decide +kernel
theorem dX5_draw_36 : decode cX5_draw 36 = .ok (.aload_n 0, 1) := by decide +kernel
theorem dX5_draw_37 : decode cX5_draw 37 = .ok (.getfield 28, 3) := by decide +kernel
theorem dX5_draw_40 : decode cX5_draw 40 = .ok (.getfield 90, 3) := by decide +kernel
theorem dX5_draw_43 : decode cX5_draw 43 = .ok (.iload_n 2, 1) := by decide +kernel
theorem dX5_draw_44 : decode cX5_draw 44 = .ok (.baload, 1) := by decide +kernel
theorem dX5_draw_45 : decode cX5_draw 45 = .ok (.ifCond .eq 6, 3) := by decide +kernel
theorem dX5_draw_48 : decode cX5_draw 48 = .ok (.bipush (-4), 2) := by decide +kernel
theorem dX5_draw_50 : decode cX5_draw 50 = .ok (.ireturn, 1) := by decide +kernel
theorem dX5_draw_51 : decode cX5_draw 51 = .ok (.aload_n 0, 1) := by decide +kernel
theorem dX5_draw_52 : decode cX5_draw 52 = .ok (.getfield 21, 3) := by decide +kernel
theorem dX5_draw_55 : decode cX5_draw 55 = .ok (.getfield 87, 3) := by decide +kernel
theorem dX5_draw_58 : decode cX5_draw 58 = .ok (.iload 4, 2) := by decide +kernel
theorem dX5_draw_60 : decode cX5_draw 60 = .ok (.dup2, 1) := by decide +kernel
theorem dX5_draw_61 : decode cX5_draw 61 = .ok (.iaload, 1) := by decide +kernel
theorem dX5_draw_62 : decode cX5_draw 62 = .ok (.iload_n 3, 1) := by decide +kernel
theorem dX5_draw_63 : decode cX5_draw 63 = .ok (.isub, 1) := by decide +kernel
theorem dX5_draw_64 : decode cX5_draw 64 = .ok (.iastore, 1) := by decide +kernel
theorem dX5_draw_65 : decode cX5_draw 65 = .ok (.aload_n 0, 1) := by decide +kernel
theorem dX5_draw_66 : decode cX5_draw 66 = .ok (.getfield 21, 3) := by decide +kernel
theorem dX5_draw_69 : decode cX5_draw 69 = .ok (.getfield 94, 3) := by decide +kernel
theorem dX5_draw_72 : decode cX5_draw 72 = .ok (.iload_n 1, 1) := by decide +kernel
theorem dX5_draw_73 : decode cX5_draw 73 = .ok (.aload_n 0, 1) := by decide +kernel
theorem dX5_draw_74 : decode cX5_draw 74 = .ok (.getfield 7, 3) := by decide +kernel
theorem dX5_draw_77 : decode cX5_draw 77 = .ok (.aload_n 0, 1) := by decide +kernel
theorem dX5_draw_78 : decode cX5_draw 78 = .ok (.getfield 14, 3) := by decide +kernel
theorem dX5_draw_81 : decode cX5_draw 81 = .ok (.iconst 0, 1) := by decide +kernel
theorem dX5_draw_82 : decode cX5_draw 82 = .ok (.iaload, 1) := by decide +kernel
theorem dX5_draw_83 : decode cX5_draw 83 = .ok (.iadd, 1) := by decide +kernel
theorem dX5_draw_84 : decode cX5_draw 84 = .ok (.invokestatic 97, 3) := by decide +kernel
theorem dX5_draw_87 : decode cX5_draw 87 = .ok (.dup2, 1) := by decide +kernel
theorem dX5_draw_88 : decode cX5_draw 88 = .ok (.iaload, 1) := by decide +kernel
theorem dX5_draw_89 : decode cX5_draw 89 = .ok (.iload_n 3, 1) := by decide +kernel
theorem dX5_draw_90 : decode cX5_draw 90 = .ok (.iadd, 1) := by decide +kernel
theorem dX5_draw_91 : decode cX5_draw 91 = .ok (.iastore, 1) := by decide +kernel
theorem dX5_draw_92 : decode cX5_draw 92 = .ok (.aload_n 0, 1) := by decide +kernel
theorem dX5_draw_93 : decode cX5_draw 93 = .ok (.getfield 21, 3) := by decide +kernel
theorem dX5_draw_96 : decode cX5_draw 96 = .ok (.getfield 87, 3) := by decide +kernel
theorem dX5_draw_99 : decode cX5_draw 99 = .ok (.iload 4, 2) := by decide +kernel
theorem dX5_draw_101 : decode cX5_draw 101 = .ok (.iaload, 1) := by decide +kernel
theorem dX5_draw_102 : decode cX5_draw 102 = .ok (.ireturn, 1) := by decide +kernel
theorem dX5_join_0 : decode cX5_join 0 = .ok (.aload_n 0, 1) := by decide +kernel
theorem dX5_join_1 : decode cX5_join 1 = .ok (.getfield 28, 3) := by decide +kernel
theorem dX5_join_4 : decode cX5_join 4 = .ok (.iload_n 1, 1) := by decide +kernel
theorem dX5_join_5 : decode cX5_join 5 = .ok (.invokevirtual 100, 3) := by decide +kernel
theorem dX5_join_8 : decode cX5_join 8 = .ok (.ifCond .ne 5, 3) := by decide +kernel
theorem dX5_join_11 : decode cX5_join 11 = .ok (.iconst (-1), 1) := by decide +kernel
theorem dX5_join_12 : decode cX5_join 12 = .ok (.ireturn, 1) := by decide +kernel
theorem dX5_join_13 : decode cX5_join 13 = .ok (.aload_n 0, 1) := by decide +kernel
theorem dX5_join_14 : decode cX5_join 14 = .ok (.getfield 28, 3) := by decide +kernel
theorem dX5_join_17 : decode cX5_join 17 = .ok (.getfield 103, 3) := by decide +kernel
theorem dX5_join_20 : decode cX5_join 20 = .ok (.iload_n 1, 1) := by decide +kernel
theorem dX5_join_21 : decode cX5_join 21 = .ok (.iaload, 1) := by decide +kernel
theorem dX5_join_22 : decode cX5_join 22 = .ok (.ifCond .eq 6, 3) := by decide +kernel
theorem dX5_join_25 : decode cX5_join 25 = .ok (.bipush (-4), 2) := by decide +kernel
theorem dX5_join_27 : decode cX5_join 27 = .ok (.ireturn, 1) := by decide +kernel
theorem dX5_join_28 : decode cX5_join 28 = .ok (.aload_n 0, 1) := by decide +kernel
theorem dX5_join_29 : decode cX5_join 29 = .ok (.getfield 28, 3) := by decide +kernel
theorem dX5_join_32 : decode cX5_join 32 = .ok (.getfield 103, 3) := by decide +kernel
theorem dX5_join_35 : decode cX5_join 35 = .ok (.iload_n 1, 1) := by decide +kernel
theorem dX5_join_36 : decode cX5_join 36 = .ok (.iconst 1, 1) := by decide +kernel
theorem dX5_join_37 : decode cX5_join 37 = .ok (.iastore, 1) := by decide +kernel
theorem dX5_join_38 : decode cX5_join 38 = .ok (.aload_n 0, 1) := by decide +kernel
theorem dX5_join_39 : decode cX5_join 39 = .ok (.getfield 7, 3) := by decide +kernel
theorem dX5_join_42 : decode cX5_join 42 = .ok (.iconst 1, 1) := by decide +kernel
theorem dX5_join_43 : decode cX5_join 43 = .ok (.iadd, 1) := by decide +kernel
theorem dX5_join_44 : decode cX5_join 44 = .ok (.ireturn, 1) := by decide +kernel
theorem dX5_leave_0 : decode cX5_leave 0 = .ok (.aload_n 0, 1) := by decide +kernel
theorem dX5_leave_1 : decode cX5_leave 1 = .ok (.getfield 28, 3) := by decide +kernel
theorem dX5_leave_4 : decode cX5_leave 4 = .ok (.iload_n 1, 1) := by decide +kernel
theorem dX5_leave_5 : decode cX5_leave 5 = .ok (.invokevirtual 100, 3) := by decide +kernel
theorem dX5_leave_8 : decode cX5_leave 8 = .ok (.ifCond .ne 5, 3) := by decide +kernel
theorem dX5_leave_11 : decode cX5_leave 11 = .ok (.iconst (-1), 1) := by decide +kernel
theorem dX5_leave_12 : decode cX5_leave 12 = .ok (.ireturn, 1) := by decide +kernel
theorem dX5_leave_13 : decode cX5_leave 13 = .ok (.aload_n 0, 1) := by decide +kernel
theorem dX5_leave_14 : decode cX5_leave 14 = .ok (.getfield 28, 3) := by decide +kernel
theorem dX5_leave_17 : decode cX5_leave 17 = .ok (.getfield 103, 3) := by decide +kernel
theorem dX5_leave_20 : decode cX5_leave 20 = .ok (.iload_n 1, 1) := by decide +kernel
theorem dX5_leave_21 : decode cX5_leave 21 = .ok (.iaload, 1) := by decide +kernel
theorem dX5_leave_22 : decode cX5_leave 22 = .ok (.iconst 2, 1) := by decide +kernel
theorem dX5_leave_23 : decode cX5_leave 23 = .ok (.if_icmp .ne 15, 3) := by decide +kernel
theorem dX5_leave_26 : decode cX5_leave 26 = .ok (.aload_n 0, 1) := by decide +kernel
theorem dX5_leave_27 : decode cX5_leave 27 = .ok (.getfield 28, 3) := by decide +kernel
theorem dX5_leave_30 : decode cX5_leave 30 = .ok (.getfield 90, 3) := by decide +kernel
theorem dX5_leave_33 : decode cX5_leave 33 = .ok (.iload_n 1, 1) := by decide +kernel
theorem dX5_leave_34 : decode cX5_leave 34 = .ok (.baload, 1) := by decide +kernel
theorem dX5_leave_35 : decode cX5_leave 35 = .ok (.ifCond .eq 6, 3) := by decide +kernel
theorem dX5_leave_38 : decode cX5_leave 38 = .ok (.bipush (-4), 2) := by decide +kernel
theorem dX5_leave_40 : decode cX5_leave 40 = .ok (.ireturn, 1) := by decide +kernel
theorem dX5_leave_41 : decode cX5_leave 41 = .ok (.aload_n 0, 1) := by decide +kernel
theorem dX5_leave_42 : decode cX5_leave 42 = .ok (.getfield 28, 3) := by decide +kernel
theorem dX5_leave_45 : decode cX5_leave 45 = .ok (.getfield 103, 3) := by decide +kernel
theorem dX5_leave_48 : decode cX5_leave 48 = .ok (.iload_n 1, 1) := by decide +kernel
theorem dX5_leave_49 : decode cX5_leave 49 = .ok (.iconst 3, 1) := by decide +kernel
theorem dX5_leave_50 : decode cX5_leave 50 = .ok (.iastore, 1) := by decide +kernel
theorem dX5_leave_51 : decode cX5_leave 51 = .ok (.aload_n 0, 1) := by decide +kernel
theorem dX5_leave_52 : decode cX5_leave 52 = .ok (.getfield 28, 3) := by decide +kernel
theorem dX5_leave_55 : decode cX5_leave 55 = .ok (.getfield 106, 3) := by decide +kernel
theorem dX5_leave_58 : decode cX5_leave 58 = .ok (.iload_n 1, 1) := by decide +kernel
theorem dX5_leave_59 : decode cX5_leave 59 = .ok (.aload_n 0, 1) := by decide +kernel
theorem dX5_leave_60 : decode cX5_leave 60 = .ok (.getfield 7, 3) := by decide +kernel
theorem dX5_leave_63 : decode cX5_leave 63 = .ok (.aload_n 0, 1) := by decide +kernel
theorem dX5_leave_64 : decode cX5_leave 64 = .ok (.getfield 14, 3) := by decide +kernel
theorem dX5_leave_67 : decode cX5_leave 67 = .ok (.iconst 0, 1) := by decide +kernel
theorem dX5_leave_68 : decode cX5_leave 68 = .ok (.iaload, 1) := by decide +kernel
theorem dX5_leave_69 : decode cX5_leave 69 = .ok (.iadd, 1) := by decide +kernel
theorem dX5_leave_70 : decode cX5_leave 70 = .ok (.iastore, 1) := by decide +kernel
theorem dX5_leave_71 : decode cX5_leave 71 = .ok (.aload_n 0, 1) := by decide +kernel
theorem dX5_leave_72 : decode cX5_leave 72 = .ok (.getfield 28, 3) := by decide +kernel
theorem dX5_leave_75 : decode cX5_leave 75 = .ok (.getfield 106, 3) := by decide +kernel
theorem dX5_leave_78 : decode cX5_leave 78 = .ok (.iload_n 1, 1) := by decide +kernel
theorem dX5_leave_79 : decode cX5_leave 79 = .ok (.iaload, 1) := by decide +kernel
theorem dX5_leave_80 : decode cX5_leave 80 = .ok (.ireturn, 1) := by decide +kernel
theorem dX5_freeze_0 : decode cX5_freeze 0 = .ok (.aload_n 0, 1) := by decide +kernel
theorem dX5_freeze_1 : decode cX5_freeze 1 = .ok (.getfield 28, 3) := by decide +kernel
theorem dX5_freeze_4 : decode cX5_freeze 4 = .ok (.iload_n 1, 1) := by decide +kernel
theorem dX5_freeze_5 : decode cX5_freeze 5 = .ok (.invokevirtual 100, 3) := by decide +kernel
theorem dX5_freeze_8 : decode cX5_freeze 8 = .ok (.ifCond .ne 5, 3) := by decide +kernel
theorem dX5_freeze_11 : decode cX5_freeze 11 = .ok (.iconst (-1), 1) := by decide +kernel
theorem dX5_freeze_12 : decode cX5_freeze 12 = .ok (.ireturn, 1) := by decide +kernel
theorem dX5_freeze_13 : decode cX5_freeze 13 = .ok (.aload_n 0, 1) := by decide +kernel
theorem dX5_freeze_14 : decode cX5_freeze 14 = .ok (.getfield 28, 3) := by decide +kernel
theorem dX5_freeze_17 : decode cX5_freeze 17 = .ok (.getfield 90, 3) := by decide +kernel
theorem dX5_freeze_20 : decode cX5_freeze 20 = .ok (.iload_n 1, 1) := by decide +kernel
theorem dX5_freeze_21 : decode cX5_freeze 21 = .ok (.baload, 1) := by decide +kernel
theorem dX5_freeze_22 : decode cX5_freeze 22 = .ok (.ifCond .eq 7, 3) := by decide +kernel
theorem dX5_freeze_25 : decode cX5_freeze 25 = .ok (.iconst 1, 1) := by decide +kernel
theorem dX5_freeze_26 : decode cX5_freeze 26 = .ok (.goto 4, 3) := by decide +kernel
theorem dX5_freeze_29 : decode cX5_freeze 29 = .ok (.iconst 0, 1) := by decide +kernel
theorem dX5_freeze_30 : decode cX5_freeze 30 = .ok (.istore_n 3, 1) := by decide +kernel
theorem dX5_freeze_31 : decode cX5_freeze 31 = .ok (.aload_n 0, 1) := by decide +kernel
theorem dX5_freeze_32 : decode cX5_freeze 32 = .ok (.getfield 28, 3) := by decide +kernel
theorem dX5_freeze_35 : decode cX5_freeze 35 = .ok (.getfield 90, 3) := by decide +kernel
theorem dX5_freeze_38 : decode cX5_freeze 38 = .ok (.iload_n 1, 1) := by decide +kernel
theorem dX5_freeze_39 : decode cX5_freeze 39 = .ok (.iload_n 2, 1) := by decide +kernel
theorem dX5_freeze_40 : decode cX5_freeze 40 = .ok (.bastore, 1) := by decide +kernel
theorem dX5_freeze_41 : decode cX5_freeze 41 = .ok (.iload_n 3, 1) := by decide +kernel
theorem dX5_freeze_42 : decode cX5_freeze 42 = .ok (.ireturn, 1) := by decide +kernel
theorem dX5_advance_0 : decode cX5_advance 0 = .ok (.iload_n 1, 1) := by decide +kernel
theorem dX5_advance_1 : decode cX5_advance 1 = .ok (.iconst 1, 1) := by decide +kernel
theorem dX5_advance_2 : decode cX5_advance 2 = .ok (.bipush 100, 2) := by decide +kernel
theorem dX5_advance_4 : decode cX5_advance 4 = .ok (.invokestatic 59, 3) := by decide +kernel
theorem dX5_advance_7 : decode cX5_advance 7 = .ok (.ifCond .ne 5, 3) := by decide +kernel
theorem dX5_advance_10 : decode cX5_advance 10 = .ok (.iconst (-1), 1) := by decide +kernel
theorem dX5_advance_11 : decode cX5_advance 11 = .ok (.ireturn, 1) := by decide +kernel
theorem dX5_advance_12 : decode cX5_advance 12 = .ok (.aload_n 0, 1) := by decide +kernel
theorem dX5_advance_13 : decode cX5_advance 13 = .ok (.getfield 7, 3) := by decide +kernel
theorem dX5_advance_16 : decode cX5_advance 16 = .ok (.iload_n 1, 1) := by decide +kernel
theorem dX5_advance_17 : decode cX5_advance 17 = .ok (.iadd, 1) := by decide +kernel
theorem dX5_advance_18 : decode cX5_advance 18 = .ok (.bipush 100, 2) := by decide +kernel
theorem dX5_advance_20 : decode cX5_advance 20 = .ok (.if_icmp .le 6, 3) := by decide +kernel
theorem dX5_advance_23 : decode cX5_advance 23 = .ok (.bipush (-3), 2) := by decide +kernel
theorem dX5_advance_25 : decode cX5_advance 25 = .ok (.ireturn, 1) := by decide +kernel
theorem dX5_advance_26 : decode cX5_advance 26 = .ok (.iconst 0, 1) := by decide +kernel
theorem dX5_advance_27 : decode cX5_advance 27 = .ok (.istore_n 2, 1) := by decide +kernel
theorem dX5_advance_28 : decode cX5_advance 28 = .ok (.iload_n 2, 1) := by decide +kernel
theorem dX5_advance_29 : decode cX5_advance 29 = .ok (.iload_n 1, 1) := by decide +kernel
theorem dX5_advance_30 : decode cX5_advance 30 = .ok (.if_icmp .ge 13, 3) := by decide +kernel
theorem dX5_advance_33 : decode cX5_advance 33 = .ok (.aload_n 0, 1) := by decide +kernel
theorem dX5_advance_34 : decode cX5_advance 34 = .ok (.invokevirtual 109, 3) := by decide +kernel
theorem dX5_advance_37 : decode cX5_advance 37 = .ok (.iinc 2 1, 3) := by decide +kernel
theorem dX5_advance_40 : decode cX5_advance 40 = .ok (.goto (-12), 3) := by decide +kernel
theorem dX5_advance_43 : decode cX5_advance 43 = .ok (.aload_n 0, 1) := by decide +kernel
theorem dX5_advance_44 : decode cX5_advance 44 = .ok (.getfield 7, 3) := by decide +kernel
theorem dX5_advance_47 : decode cX5_advance 47 = .ok (.ireturn, 1) := by decide +kernel
theorem dX5_balance_0 : decode cX5_balance 0 = .ok (.iload_n 1, 1) := by decide +kernel
theorem dX5_balance_1 : decode cX5_balance 1 = .ok (.invokestatic 63, 3) := by decide +kernel
theorem dX5_balance_4 : decode cX5_balance 4 = .ok (.ifCond .eq 15, 3) := by decide +kernel
theorem dX5_balance_7 : decode cX5_balance 7 = .ok (.aload_n 0, 1) := by decide +kernel
theorem dX5_balance_8 : decode cX5_balance 8 = .ok (.getfield 21, 3) := by decide +kernel
theorem dX5_balance_11 : decode cX5_balance 11 = .ok (.getfield 71, 3) := by decide +kernel
theorem dX5_balance_14 : decode cX5_balance 14 = .ok (.iload_n 1, 1) := by decide +kernel
theorem dX5_balance_15 : decode cX5_balance 15 = .ok (.iaload, 1) := by decide +kernel
theorem dX5_balance_16 : decode cX5_balance 16 = .ok (.goto 4, 3) := by decide +kernel
theorem dX5_balance_19 : decode cX5_balance 19 = .ok (.iconst (-1), 1) := by decide +kernel
theorem dX5_balance_20 : decode cX5_balance 20 = .ok (.ireturn, 1) := by decide +kernel
theorem dX5_staked_0 : decode cX5_staked 0 = .ok (.iload_n 1, 1) := by decide +kernel
theorem dX5_staked_1 : decode cX5_staked 1 = .ok (.invokestatic 63, 3) := by decide +kernel
theorem dX5_staked_4 : decode cX5_staked 4 = .ok (.ifCond .ne 5, 3) := by decide +kernel
theorem dX5_staked_7 : decode cX5_staked 7 = .ok (.iconst (-1), 1) := by decide +kernel
theorem dX5_staked_8 : decode cX5_staked 8 = .ok (.ireturn, 1) := by decide +kernel
theorem dX5_staked_9 : decode cX5_staked 9 = .ok (.iload_n 2, 1) := by decide +kernel
theorem dX5_staked_10 : decode cX5_staked 10 = .ok (.iconst (-1), 1) := by decide +kernel
theorem dX5_staked_11 : decode cX5_staked 11 = .ok (.if_icmp .ne 12, 3) := by decide +kernel
theorem dX5_staked_14 : decode cX5_staked 14 = .ok (.aload_n 0, 1) := by decide +kernel
theorem dX5_staked_15 : decode cX5_staked 15 = .ok (.getfield 21, 3) := by decide +kernel
theorem dX5_staked_18 : decode cX5_staked 18 = .ok (.iload_n 1, 1) := by decide +kernel
theorem dX5_staked_19 : decode cX5_staked 19 = .ok (.invokevirtual 112, 3) := by decide +kernel
theorem dX5_staked_22 : decode cX5_staked 22 = .ok (.ireturn, 1) := by decide +kernel
theorem dX5_staked_23 : decode cX5_staked 23 = .ok (.aload_n 0, 1) := by decide +kernel
theorem dX5_staked_24 : decode cX5_staked 24 = .ok (.getfield 28, 3) := by decide +kernel
theorem dX5_staked_27 : decode cX5_staked 27 = .ok (.iload_n 2, 1) := by decide +kernel
theorem dX5_staked_28 : decode cX5_staked 28 = .ok (.invokevirtual 100, 3) := by decide +kernel
theorem dX5_staked_31 : decode cX5_staked 31 = .ok (.ifCond .eq 19, 3) := by decide +kernel
theorem dX5_staked_34 : decode cX5_staked 34 = .ok (.aload_n 0, 1) := by decide +kernel
theorem dX5_staked_35 : decode cX5_staked 35 = .ok (.getfield 21, 3) := by decide +kernel
theorem dX5_staked_38 : decode cX5_staked 38 = .ok (.getfield 87, 3) := by decide +kernel
theorem dX5_staked_41 : decode cX5_staked 41 = .ok (.iload_n 2, 1) := by decide +kernel
theorem dX5_staked_42 : decode cX5_staked 42 = .ok (.iload_n 1, 1) := by decide +kernel
theorem dX5_staked_43 : decode cX5_staked 43 = .ok (.invokestatic 84, 3) := by decide +kernel
theorem dX5_staked_46 : decode cX5_staked 46 = .ok (.iaload, 1) := by decide +kernel
theorem dX5_staked_47 : decode cX5_staked 47 = .ok (.goto 4, 3) := by decide +kernel
theorem dX5_staked_50 : decode cX5_staked 50 = .ok (.iconst (-1), 1) := by decide +kernel
theorem dX5_staked_51 : decode cX5_staked 51 = .ok (.ireturn, 1) := by decide +kernel
theorem dX5_drawn_0 : decode cX5_drawn 0 = .ok (.iload_n 1, 1) := by decide +kernel
theorem dX5_drawn_1 : decode cX5_drawn 1 = .ok (.invokestatic 63, 3) := by decide +kernel
theorem dX5_drawn_4 : decode cX5_drawn 4 = .ok (.ifCond .ne 5, 3) := by decide +kernel
theorem dX5_drawn_7 : decode cX5_drawn 7 = .ok (.iconst (-1), 1) := by decide +kernel
theorem dX5_drawn_8 : decode cX5_drawn 8 = .ok (.ireturn, 1) := by decide +kernel
theorem dX5_drawn_9 : decode cX5_drawn 9 = .ok (.iload_n 2, 1) := by decide +kernel
theorem dX5_drawn_10 : decode cX5_drawn 10 = .ok (.iconst (-1), 1) := by decide +kernel
theorem dX5_drawn_11 : decode cX5_drawn 11 = .ok (.if_icmp .ne 12, 3) := by decide +kernel
theorem dX5_drawn_14 : decode cX5_drawn 14 = .ok (.aload_n 0, 1) := by decide +kernel
theorem dX5_drawn_15 : decode cX5_drawn 15 = .ok (.getfield 21, 3) := by decide +kernel
theorem dX5_drawn_18 : decode cX5_drawn 18 = .ok (.iload_n 1, 1) := by decide +kernel
theorem dX5_drawn_19 : decode cX5_drawn 19 = .ok (.invokevirtual 116, 3) := by decide +kernel
theorem dX5_drawn_22 : decode cX5_drawn 22 = .ok (.ireturn, 1) := by decide +kernel
theorem dX5_drawn_23 : decode cX5_drawn 23 = .ok (.iload_n 2, 1) := by decide +kernel
theorem dX5_drawn_24 : decode cX5_drawn 24 = .ok (.iconst 1, 1) := by decide +kernel
theorem dX5_drawn_25 : decode cX5_drawn 25 = .ok (.bipush 109, 2) := by decide +kernel
theorem dX5_drawn_27 : decode cX5_drawn 27 = .ok (.invokestatic 59, 3) := by decide +kernel
theorem dX5_drawn_30 : decode cX5_drawn 30 = .ok (.ifCond .eq 19, 3) := by decide +kernel
theorem dX5_drawn_33 : decode cX5_drawn 33 = .ok (.aload_n 0, 1) := by decide +kernel
theorem dX5_drawn_34 : decode cX5_drawn 34 = .ok (.getfield 21, 3) := by decide +kernel
theorem dX5_drawn_37 : decode cX5_drawn 37 = .ok (.getfield 94, 3) := by decide +kernel
theorem dX5_drawn_40 : decode cX5_drawn 40 = .ok (.iload_n 1, 1) := by decide +kernel
theorem dX5_drawn_41 : decode cX5_drawn 41 = .ok (.iload_n 2, 1) := by decide +kernel
theorem dX5_drawn_42 : decode cX5_drawn 42 = .ok (.invokestatic 97, 3) := by decide +kernel
theorem dX5_drawn_45 : decode cX5_drawn 45 = .ok (.iaload, 1) := by decide +kernel
theorem dX5_drawn_46 : decode cX5_drawn 46 = .ok (.goto 4, 3) := by decide +kernel
theorem dX5_drawn_49 : decode cX5_drawn 49 = .ok (.iconst (-1), 1) := by decide +kernel
theorem dX5_drawn_50 : decode cX5_drawn 50 = .ok (.ireturn, 1) := by decide +kernel
theorem dX5_about_0 : decode cX5_about 0 = .ok (.aload_n 0, 1) := by decide +kernel
theorem dX5_about_1 : decode cX5_about 1 = .ok (.getfield 28, 3) := by decide +kernel
theorem dX5_about_4 : decode cX5_about 4 = .ok (.iload_n 1, 1) := by decide +kernel
theorem dX5_about_5 : decode cX5_about 5 = .ok (.invokevirtual 100, 3) := by decide +kernel
theorem dX5_about_8 : decode cX5_about 8 = .ok (.ifCond .ne 5, 3) := by decide +kernel
theorem dX5_about_11 : decode cX5_about 11 = .ok (.iconst (-1), 1) := by decide +kernel
theorem dX5_about_12 : decode cX5_about 12 = .ok (.ireturn, 1) := by decide +kernel
theorem dX5_about_13 : decode cX5_about 13 = .ok (.iload_n 2, 1) := by decide +kernel
theorem dX5_about_14 : decode cX5_about 14 = .ok (.tableswitch 105 0 5 #[38, 48, 66, 76, 86, 96], 38) := by decide +kernel
theorem dX5_about_52 : decode cX5_about 52 = .ok (.aload_n 0, 1) := by decide +kernel
theorem dX5_about_53 : decode cX5_about 53 = .ok (.getfield 28, 3) := by decide +kernel
theorem dX5_about_56 : decode cX5_about 56 = .ok (.getfield 103, 3) := by decide +kernel
theorem dX5_about_59 : decode cX5_about 59 = .ok (.iload_n 1, 1) := by decide +kernel
theorem dX5_about_60 : decode cX5_about 60 = .ok (.iaload, 1) := by decide +kernel
theorem dX5_about_61 : decode cX5_about 61 = .ok (.ireturn, 1) := by decide +kernel
theorem dX5_about_62 : decode cX5_about 62 = .ok (.aload_n 0, 1) := by decide +kernel
theorem dX5_about_63 : decode cX5_about 63 = .ok (.getfield 28, 3) := by decide +kernel
theorem dX5_about_66 : decode cX5_about 66 = .ok (.getfield 90, 3) := by decide +kernel
theorem dX5_about_69 : decode cX5_about 69 = .ok (.iload_n 1, 1) := by decide +kernel
theorem dX5_about_70 : decode cX5_about 70 = .ok (.baload, 1) := by decide +kernel
theorem dX5_about_71 : decode cX5_about 71 = .ok (.ifCond .eq 7, 3) := by decide +kernel
theorem dX5_about_74 : decode cX5_about 74 = .ok (.iconst 1, 1) := by decide +kernel
theorem dX5_about_75 : decode cX5_about 75 = .ok (.goto 4, 3) := by decide +kernel
theorem dX5_about_78 : decode cX5_about 78 = .ok (.iconst 0, 1) := by decide +kernel
theorem dX5_about_79 : decode cX5_about 79 = .ok (.ireturn, 1) := by decide +kernel
theorem dX5_about_80 : decode cX5_about 80 = .ok (.aload_n 0, 1) := by decide +kernel
theorem dX5_about_81 : decode cX5_about 81 = .ok (.getfield 28, 3) := by decide +kernel
theorem dX5_about_84 : decode cX5_about 84 = .ok (.getfield 106, 3) := by decide +kernel
theorem dX5_about_87 : decode cX5_about 87 = .ok (.iload_n 1, 1) := by decide +kernel
theorem dX5_about_88 : decode cX5_about 88 = .ok (.iaload, 1) := by decide +kernel
theorem dX5_about_89 : decode cX5_about 89 = .ok (.ireturn, 1) := by decide +kernel
theorem dX5_about_90 : decode cX5_about 90 = .ok (.aload_n 0, 1) := by decide +kernel
theorem dX5_about_91 : decode cX5_about 91 = .ok (.getfield 28, 3) := by decide +kernel
theorem dX5_about_94 : decode cX5_about 94 = .ok (.getfield 119, 3) := by decide +kernel
theorem dX5_about_97 : decode cX5_about 97 = .ok (.iload_n 1, 1) := by decide +kernel
theorem dX5_about_98 : decode cX5_about 98 = .ok (.iaload, 1) := by decide +kernel
theorem dX5_about_99 : decode cX5_about 99 = .ok (.ireturn, 1) := by decide +kernel
theorem dX5_about_100 : decode cX5_about 100 = .ok (.aload_n 0, 1) := by decide +kernel
theorem dX5_about_101 : decode cX5_about 101 = .ok (.getfield 28, 3) := by decide +kernel
theorem dX5_about_104 : decode cX5_about 104 = .ok (.getfield 122, 3) := by decide +kernel
theorem dX5_about_107 : decode cX5_about 107 = .ok (.iload_n 1, 1) := by decide +kernel
theorem dX5_about_108 : decode cX5_about 108 = .ok (.iaload, 1) := by decide +kernel
theorem dX5_about_109 : decode cX5_about 109 = .ok (.ireturn, 1) := by decide +kernel
theorem dX5_about_110 : decode cX5_about 110 = .ok (.aload_n 0, 1) := by decide +kernel
theorem dX5_about_111 : decode cX5_about 111 = .ok (.getfield 21, 3) := by decide +kernel
theorem dX5_about_114 : decode cX5_about 114 = .ok (.iload_n 1, 1) := by decide +kernel
theorem dX5_about_115 : decode cX5_about 115 = .ok (.invokevirtual 125, 3) := by decide +kernel
theorem dX5_about_118 : decode cX5_about 118 = .ok (.ireturn, 1) := by decide +kernel
theorem dX5_about_119 : decode cX5_about 119 = .ok (.iconst (-1), 1) := by decide +kernel
theorem dX5_about_120 : decode cX5_about 120 = .ok (.ireturn, 1) := by decide +kernel
theorem dX5_weight_0 : decode cX5_weight 0 = .ok (.aload_n 0, 1) := by decide +kernel
theorem dX5_weight_1 : decode cX5_weight 1 = .ok (.iload_n 2, 1) := by decide +kernel
theorem dX5_weight_2 : decode cX5_weight 2 = .ok (.invokevirtual 128, 3) := by decide +kernel
theorem dX5_weight_5 : decode cX5_weight 5 = .ok (.ifCond .ne 5, 3) := by decide +kernel
theorem dX5_weight_8 : decode cX5_weight 8 = .ok (.iconst (-1), 1) := by decide +kernel
theorem dX5_weight_9 : decode cX5_weight 9 = .ok (.ireturn, 1) := by decide +kernel
theorem dX5_weight_10 : decode cX5_weight 10 = .ok (.iload_n 1, 1) := by decide +kernel
theorem dX5_weight_11 : decode cX5_weight 11 = .ok (.iconst (-1), 1) := by decide +kernel
theorem dX5_weight_12 : decode cX5_weight 12 = .ok (.if_icmp .ne 13, 3) := by decide +kernel
theorem dX5_weight_15 : decode cX5_weight 15 = .ok (.aload_n 0, 1) := by decide +kernel
theorem dX5_weight_16 : decode cX5_weight 16 = .ok (.getfield 35, 3) := by decide +kernel
theorem dX5_weight_19 : decode cX5_weight 19 = .ok (.getfield 131, 3) := by decide +kernel
theorem dX5_weight_22 : decode cX5_weight 22 = .ok (.iload_n 2, 1) := by decide +kernel
theorem dX5_weight_23 : decode cX5_weight 23 = .ok (.iaload, 1) := by decide +kernel
theorem dX5_weight_24 : decode cX5_weight 24 = .ok (.ireturn, 1) := by decide +kernel
theorem dX5_weight_25 : decode cX5_weight 25 = .ok (.aload_n 0, 1) := by decide +kernel
theorem dX5_weight_26 : decode cX5_weight 26 = .ok (.getfield 28, 3) := by decide +kernel
theorem dX5_weight_29 : decode cX5_weight 29 = .ok (.iload_n 1, 1) := by decide +kernel
theorem dX5_weight_30 : decode cX5_weight 30 = .ok (.invokevirtual 100, 3) := by decide +kernel
theorem dX5_weight_33 : decode cX5_weight 33 = .ok (.ifCond .eq 19, 3) := by decide +kernel
theorem dX5_weight_36 : decode cX5_weight 36 = .ok (.aload_n 0, 1) := by decide +kernel
theorem dX5_weight_37 : decode cX5_weight 37 = .ok (.getfield 35, 3) := by decide +kernel
theorem dX5_weight_40 : decode cX5_weight 40 = .ok (.getfield 134, 3) := by decide +kernel
theorem dX5_weight_43 : decode cX5_weight 43 = .ok (.iload_n 2, 1) := by decide +kernel
theorem dX5_weight_44 : decode cX5_weight 44 = .ok (.iload_n 1, 1) := by decide +kernel
theorem dX5_weight_45 : decode cX5_weight 45 = .ok (.invokestatic 137, 3) := by decide +kernel
theorem dX5_weight_48 : decode cX5_weight 48 = .ok (.iaload, 1) := by decide +kernel
theorem dX5_weight_49 : decode cX5_weight 49 = .ok (.goto 4, 3) := by decide +kernel
theorem dX5_weight_52 : decode cX5_weight 52 = .ok (.iconst (-1), 1) := by decide +kernel
theorem dX5_weight_53 : decode cX5_weight 53 = .ok (.ireturn, 1) := by decide +kernel
theorem dX5_reward_0 : decode cX5_reward 0 = .ok (.iload_n 2, 1) := by decide +kernel
theorem dX5_reward_1 : decode cX5_reward 1 = .ok (.iconst 0, 1) := by decide +kernel
theorem dX5_reward_2 : decode cX5_reward 2 = .ok (.aload_n 0, 1) := by decide +kernel
theorem dX5_reward_3 : decode cX5_reward 3 = .ok (.getfield 7, 3) := by decide +kernel
theorem dX5_reward_6 : decode cX5_reward 6 = .ok (.iconst 1, 1) := by decide +kernel
theorem dX5_reward_7 : decode cX5_reward 7 = .ok (.isub, 1) := by decide +kernel
theorem dX5_reward_8 : decode cX5_reward 8 = .ok (.invokestatic 59, 3) := by decide +kernel
theorem dX5_reward_11 : decode cX5_reward 11 = .ok (.ifCond .ne 5, 3) := by decide +kernel
theorem dX5_reward_14 : decode cX5_reward 14 = .ok (.iconst (-1), 1) := by decide +kernel
theorem dX5_reward_15 : decode cX5_reward 15 = .ok (.ireturn, 1) := by decide +kernel
theorem dX5_reward_16 : decode cX5_reward 16 = .ok (.iload_n 1, 1) := by decide +kernel
theorem dX5_reward_17 : decode cX5_reward 17 = .ok (.iconst (-1), 1) := by decide +kernel
theorem dX5_reward_18 : decode cX5_reward 18 = .ok (.if_icmp .ne 12, 3) := by decide +kernel
theorem dX5_reward_21 : decode cX5_reward 21 = .ok (.aload_n 0, 1) := by decide +kernel
theorem dX5_reward_22 : decode cX5_reward 22 = .ok (.getfield 35, 3) := by decide +kernel
theorem dX5_reward_25 : decode cX5_reward 25 = .ok (.iload_n 2, 1) := by decide +kernel
theorem dX5_reward_26 : decode cX5_reward 26 = .ok (.invokevirtual 140, 3) := by decide +kernel
theorem dX5_reward_29 : decode cX5_reward 29 = .ok (.ireturn, 1) := by decide +kernel
theorem dX5_reward_30 : decode cX5_reward 30 = .ok (.aload_n 0, 1) := by decide +kernel
theorem dX5_reward_31 : decode cX5_reward 31 = .ok (.getfield 28, 3) := by decide +kernel
theorem dX5_reward_34 : decode cX5_reward 34 = .ok (.iload_n 1, 1) := by decide +kernel
theorem dX5_reward_35 : decode cX5_reward 35 = .ok (.invokevirtual 100, 3) := by decide +kernel
theorem dX5_reward_38 : decode cX5_reward 38 = .ok (.ifCond .eq 19, 3) := by decide +kernel
theorem dX5_reward_41 : decode cX5_reward 41 = .ok (.aload_n 0, 1) := by decide +kernel
theorem dX5_reward_42 : decode cX5_reward 42 = .ok (.getfield 35, 3) := by decide +kernel
theorem dX5_reward_45 : decode cX5_reward 45 = .ok (.getfield 143, 3) := by decide +kernel
theorem dX5_reward_48 : decode cX5_reward 48 = .ok (.iload_n 2, 1) := by decide +kernel
theorem dX5_reward_49 : decode cX5_reward 49 = .ok (.iload_n 1, 1) := by decide +kernel
theorem dX5_reward_50 : decode cX5_reward 50 = .ok (.invokestatic 137, 3) := by decide +kernel
theorem dX5_reward_53 : decode cX5_reward 53 = .ok (.iaload, 1) := by decide +kernel
theorem dX5_reward_54 : decode cX5_reward 54 = .ok (.goto 4, 3) := by decide +kernel
theorem dX5_reward_57 : decode cX5_reward 57 = .ok (.iconst (-1), 1) := by decide +kernel
theorem dX5_reward_58 : decode cX5_reward 58 = .ok (.ireturn, 1) := by decide +kernel
theorem dX5_judge_0 : decode cX5_judge 0 = .ok (.aload_n 0, 1) := by decide +kernel
theorem dX5_judge_1 : decode cX5_judge 1 = .ok (.iload_n 1, 1) := by decide +kernel
theorem dX5_judge_2 : decode cX5_judge 2 = .ok (.invokevirtual 128, 3) := by decide +kernel
theorem dX5_judge_5 : decode cX5_judge 5 = .ok (.ifCond .eq 14, 3) := by decide +kernel
theorem dX5_judge_8 : decode cX5_judge 8 = .ok (.aload_n 0, 1) := by decide +kernel
theorem dX5_judge_9 : decode cX5_judge 9 = .ok (.getfield 28, 3) := by decide +kernel
theorem dX5_judge_12 : decode cX5_judge 12 = .ok (.iload_n 2, 1) := by decide +kernel
theorem dX5_judge_13 : decode cX5_judge 13 = .ok (.invokevirtual 146, 3) := by decide +kernel
theorem dX5_judge_16 : decode cX5_judge 16 = .ok (.ifCond .ne 5, 3) := by decide +kernel
theorem dX5_judge_19 : decode cX5_judge 19 = .ok (.iconst (-1), 1) := by decide +kernel
theorem dX5_judge_20 : decode cX5_judge 20 = .ok (.ireturn, 1) := by decide +kernel
theorem dX5_judge_21 : decode cX5_judge 21 = .ok (.aload_n 0, 1) := by decide +kernel
theorem dX5_judge_22 : decode cX5_judge 22 = .ok (.getfield 35, 3) := by decide +kernel
theorem dX5_judge_25 : decode cX5_judge 25 = .ok (.iload_n 1, 1) := by decide +kernel
theorem dX5_judge_26 : decode cX5_judge 26 = .ok (.iload_n 2, 1) := by decide +kernel
theorem dX5_judge_27 : decode cX5_judge 27 = .ok (.invokevirtual 149, 3) := by decide +kernel
theorem dX5_judge_30 : decode cX5_judge 30 = .ok (.ifCond .eq 7, 3) := by decide +kernel
theorem dX5_judge_33 : decode cX5_judge 33 = .ok (.iconst 1, 1) := by decide +kernel
theorem dX5_judge_34 : decode cX5_judge 34 = .ok (.goto 4, 3) := by decide +kernel
theorem dX5_judge_37 : decode cX5_judge 37 = .ok (.iconst 0, 1) := by decide +kernel
theorem dX5_judge_38 : decode cX5_judge 38 = .ok (.ireturn, 1) := by decide +kernel
theorem dX5_jump_0 : decode cX5_jump 0 = .ok (.aload_n 0, 1) := by decide +kernel
theorem dX5_jump_1 : decode cX5_jump 1 = .ok (.iload_n 1, 1) := by decide +kernel
theorem dX5_jump_2 : decode cX5_jump 2 = .ok (.iload_n 2, 1) := by decide +kernel
theorem dX5_jump_3 : decode cX5_jump 3 = .ok (.invokevirtual 153, 3) := by decide +kernel
theorem dX5_jump_6 : decode cX5_jump 6 = .ok (.ifCond .eq 14, 3) := by decide +kernel
theorem dX5_jump_9 : decode cX5_jump 9 = .ok (.aload_n 0, 1) := by decide +kernel
theorem dX5_jump_10 : decode cX5_jump 10 = .ok (.getfield 28, 3) := by decide +kernel
theorem dX5_jump_13 : decode cX5_jump 13 = .ok (.iload_n 3, 1) := by decide +kernel
theorem dX5_jump_14 : decode cX5_jump 14 = .ok (.invokevirtual 146, 3) := by decide +kernel
theorem dX5_jump_17 : decode cX5_jump 17 = .ok (.ifCond .ne 5, 3) := by decide +kernel
theorem dX5_jump_20 : decode cX5_jump 20 = .ok (.iconst (-1), 1) := by decide +kernel
theorem dX5_jump_21 : decode cX5_jump 21 = .ok (.ireturn, 1) := by decide +kernel
theorem dX5_jump_22 : decode cX5_jump 22 = .ok (.aload_n 0, 1) := by decide +kernel
theorem dX5_jump_23 : decode cX5_jump 23 = .ok (.getfield 35, 3) := by decide +kernel
theorem dX5_jump_26 : decode cX5_jump 26 = .ok (.iload_n 1, 1) := by decide +kernel
theorem dX5_jump_27 : decode cX5_jump 27 = .ok (.iload_n 2, 1) := by decide +kernel
theorem dX5_jump_28 : decode cX5_jump 28 = .ok (.iload_n 3, 1) := by decide +kernel
theorem dX5_jump_29 : decode cX5_jump 29 = .ok (.invokevirtual 156, 3) := by decide +kernel
theorem dX5_jump_32 : decode cX5_jump 32 = .ok (.ifCond .eq 7, 3) := by decide +kernel
theorem dX5_jump_35 : decode cX5_jump 35 = .ok (.iconst 1, 1) := by decide +kernel
theorem dX5_jump_36 : decode cX5_jump 36 = .ok (.goto 4, 3) := by decide +kernel
theorem dX5_jump_39 : decode cX5_jump 39 = .ok (.iconst 0, 1) := by decide +kernel
theorem dX5_jump_40 : decode cX5_jump 40 = .ok (.ireturn, 1) := by decide +kernel
theorem dX5_overlap_0 : decode cX5_overlap 0 = .ok (.aload_n 0, 1) := by decide +kernel
theorem dX5_overlap_1 : decode cX5_overlap 1 = .ok (.iload_n 1, 1) := by decide +kernel
theorem dX5_overlap_2 : decode cX5_overlap 2 = .ok (.invokevirtual 128, 3) := by decide +kernel
theorem dX5_overlap_5 : decode cX5_overlap 5 = .ok (.ifCond .eq 11, 3) := by decide +kernel
theorem dX5_overlap_8 : decode cX5_overlap 8 = .ok (.aload_n 0, 1) := by decide +kernel
theorem dX5_overlap_9 : decode cX5_overlap 9 = .ok (.iload_n 2, 1) := by decide +kernel
theorem dX5_overlap_10 : decode cX5_overlap 10 = .ok (.invokevirtual 128, 3) := by decide +kernel
theorem dX5_overlap_13 : decode cX5_overlap 13 = .ok (.ifCond .ne 5, 3) := by decide +kernel
theorem dX5_overlap_16 : decode cX5_overlap 16 = .ok (.iconst (-1), 1) := by decide +kernel
theorem dX5_overlap_17 : decode cX5_overlap 17 = .ok (.ireturn, 1) := by decide +kernel
theorem dX5_overlap_18 : decode cX5_overlap 18 = .ok (.aload_n 0, 1) := by decide +kernel
theorem dX5_overlap_19 : decode cX5_overlap 19 = .ok (.getfield 35, 3) := by decide +kernel
theorem dX5_overlap_22 : decode cX5_overlap 22 = .ok (.iload_n 1, 1) := by decide +kernel
theorem dX5_overlap_23 : decode cX5_overlap 23 = .ok (.iload_n 2, 1) := by decide +kernel
theorem dX5_overlap_24 : decode cX5_overlap 24 = .ok (.invokevirtual 159, 3) := by decide +kernel
theorem dX5_overlap_27 : decode cX5_overlap 27 = .ok (.ireturn, 1) := by decide +kernel
theorem dX5_way_0 : decode cX5_way 0 = .ok (.aload_n 0, 1) := by decide +kernel
theorem dX5_way_1 : decode cX5_way 1 = .ok (.iload_n 1, 1) := by decide +kernel
theorem dX5_way_2 : decode cX5_way 2 = .ok (.iload_n 2, 1) := by decide +kernel
theorem dX5_way_3 : decode cX5_way 3 = .ok (.invokevirtual 153, 3) := by decide +kernel
theorem dX5_way_6 : decode cX5_way 6 = .ok (.ifCond .ne 5, 3) := by decide +kernel
theorem dX5_way_9 : decode cX5_way 9 = .ok (.iconst (-1), 1) := by decide +kernel
theorem dX5_way_10 : decode cX5_way 10 = .ok (.ireturn, 1) := by decide +kernel
theorem dX5_way_11 : decode cX5_way 11 = .ok (.aload_n 0, 1) := by decide +kernel
theorem dX5_way_12 : decode cX5_way 12 = .ok (.getfield 49, 3) := by decide +kernel
theorem dX5_way_15 : decode cX5_way 15 = .ok (.aload_n 0, 1) := by decide +kernel
theorem dX5_way_16 : decode cX5_way 16 = .ok (.getfield 35, 3) := by decide +kernel
theorem dX5_way_19 : decode cX5_way 19 = .ok (.iload_n 1, 1) := by decide +kernel
theorem dX5_way_20 : decode cX5_way 20 = .ok (.iload_n 2, 1) := by decide +kernel
theorem dX5_way_21 : decode cX5_way 21 = .ok (.invokevirtual 162, 3) := by decide +kernel
theorem dX5_way_24 : decode cX5_way 24 = .ok (.aload_n 0, 1) := by decide +kernel
theorem dX5_way_25 : decode cX5_way 25 = .ok (.getfield 49, 3) := by decide +kernel
theorem dX5_way_28 : decode cX5_way 28 = .ok (.getfield 166, 3) := by decide +kernel
theorem dX5_way_31 : decode cX5_way 31 = .ok (.iload_n 1, 1) := by decide +kernel
theorem dX5_way_32 : decode cX5_way 32 = .ok (.iaload, 1) := by decide +kernel
theorem dX5_way_33 : decode cX5_way 33 = .ok (.istore 4, 2) := by decide +kernel
theorem dX5_way_35 : decode cX5_way 35 = .ok (.iload 4, 2) := by decide +kernel
theorem dX5_way_37 : decode cX5_way 37 = .ok (.bipush (-2), 2) := by decide +kernel
theorem dX5_way_39 : decode cX5_way 39 = .ok (.if_icmp .ne 6, 3) := by decide +kernel
theorem dX5_way_42 : decode cX5_way 42 = .ok (.bipush (-2), 2) := by decide +kernel
theorem dX5_way_44 : decode cX5_way 44 = .ok (.ireturn, 1) := by decide +kernel
theorem dX5_way_45 : decode cX5_way 45 = .ok (.iload_n 3, 1) := by decide +kernel
theorem dX5_way_46 : decode cX5_way 46 = .ok (.iconst (-1), 1) := by decide +kernel
theorem dX5_way_47 : decode cX5_way 47 = .ok (.if_icmp .ne 6, 3) := by decide +kernel
theorem dX5_way_50 : decode cX5_way 50 = .ok (.iload 4, 2) := by decide +kernel
theorem dX5_way_52 : decode cX5_way 52 = .ok (.ireturn, 1) := by decide +kernel
theorem dX5_way_53 : decode cX5_way 53 = .ok (.iload_n 3, 1) := by decide +kernel
theorem dX5_way_54 : decode cX5_way 54 = .ok (.iconst 0, 1) := by decide +kernel
theorem dX5_way_55 : decode cX5_way 55 = .ok (.iload 4, 2) := by decide +kernel
theorem dX5_way_57 : decode cX5_way 57 = .ok (.invokestatic 59, 3) := by decide +kernel
theorem dX5_way_60 : decode cX5_way 60 = .ok (.ifCond .eq 16, 3) := by decide +kernel
theorem dX5_way_63 : decode cX5_way 63 = .ok (.aload_n 0, 1) := by decide +kernel
theorem dX5_way_64 : decode cX5_way 64 = .ok (.getfield 49, 3) := by decide +kernel
theorem dX5_way_67 : decode cX5_way 67 = .ok (.iload_n 1, 1) := by decide +kernel
theorem dX5_way_68 : decode cX5_way 68 = .ok (.iload_n 2, 1) := by decide +kernel
theorem dX5_way_69 : decode cX5_way 69 = .ok (.iload_n 3, 1) := by decide +kernel
theorem dX5_way_70 : decode cX5_way 70 = .ok (.invokevirtual 169, 3) := by decide +kernel
theorem dX5_way_73 : decode cX5_way 73 = .ok (.goto 4, 3) := by decide +kernel
theorem dX5_way_76 : decode cX5_way 76 = .ok (.iconst (-1), 1) := by decide +kernel
theorem dX5_way_77 : decode cX5_way 77 = .ok (.ireturn, 1) := by decide +kernel
theorem dX5_count_0 : decode cX5_count 0 = .ok (.iload_n 1, 1) := by decide +kernel
theorem dX5_count_1 : decode cX5_count 1 = .ok (.tableswitch 140 0 10 #[59, 64, 72, 80, 88, 96, 104, 112, 119, 126, 133], 59) := by decide +kernel
theorem dX5_count_60 : decode cX5_count 60 = .ok (.aload_n 0, 1) := by decide +kernel
theorem dX5_count_61 : decode cX5_count 61 = .ok (.getfield 7, 3) := by decide +kernel
theorem dX5_count_64 : decode cX5_count 64 = .ok (.ireturn, 1) := by decide +kernel
theorem dX5_count_65 : decode cX5_count 65 = .ok (.aload_n 0, 1) := by decide +kernel
theorem dX5_count_66 : decode cX5_count 66 = .ok (.getfield 28, 3) := by decide +kernel
theorem dX5_count_69 : decode cX5_count 69 = .ok (.getfield 74, 3) := by decide +kernel
theorem dX5_count_72 : decode cX5_count 72 = .ok (.ireturn, 1) := by decide +kernel
theorem dX5_count_73 : decode cX5_count 73 = .ok (.aload_n 0, 1) := by decide +kernel
theorem dX5_count_74 : decode cX5_count 74 = .ok (.getfield 21, 3) := by decide +kernel
theorem dX5_count_77 : decode cX5_count 77 = .ok (.getfield 68, 3) := by decide +kernel
theorem dX5_count_80 : decode cX5_count 80 = .ok (.ireturn, 1) := by decide +kernel
theorem dX5_count_81 : decode cX5_count 81 = .ok (.aload_n 0, 1) := by decide +kernel
theorem dX5_count_82 : decode cX5_count 82 = .ok (.getfield 21, 3) := by decide +kernel
theorem dX5_count_85 : decode cX5_count 85 = .ok (.getfield 173, 3) := by decide +kernel
theorem dX5_count_88 : decode cX5_count 88 = .ok (.ireturn, 1) := by decide +kernel
theorem dX5_count_89 : decode cX5_count 89 = .ok (.aload_n 0, 1) := by decide +kernel
theorem dX5_count_90 : decode cX5_count 90 = .ok (.getfield 21, 3) := by decide +kernel
theorem dX5_count_93 : decode cX5_count 93 = .ok (.invokevirtual 176, 3) := by decide +kernel
theorem dX5_count_96 : decode cX5_count 96 = .ok (.ireturn, 1) := by decide +kernel
theorem dX5_count_97 : decode cX5_count 97 = .ok (.aload_n 0, 1) := by decide +kernel
theorem dX5_count_98 : decode cX5_count 98 = .ok (.getfield 21, 3) := by decide +kernel
theorem dX5_count_101 : decode cX5_count 101 = .ok (.invokevirtual 180, 3) := by decide +kernel
theorem dX5_count_104 : decode cX5_count 104 = .ok (.ireturn, 1) := by decide +kernel
theorem dX5_count_105 : decode cX5_count 105 = .ok (.aload_n 0, 1) := by decide +kernel
theorem dX5_count_106 : decode cX5_count 106 = .ok (.getfield 21, 3) := by decide +kernel
theorem dX5_count_109 : decode cX5_count 109 = .ok (.invokevirtual 183, 3) := by decide +kernel
theorem dX5_count_112 : decode cX5_count 112 = .ok (.ireturn, 1) := by decide +kernel
theorem dX5_count_113 : decode cX5_count 113 = .ok (.aload_n 0, 1) := by decide +kernel
theorem dX5_count_114 : decode cX5_count 114 = .ok (.getfield 14, 3) := by decide +kernel
theorem dX5_count_117 : decode cX5_count 117 = .ok (.iconst 0, 1) := by decide +kernel
theorem dX5_count_118 : decode cX5_count 118 = .ok (.iaload, 1) := by decide +kernel
theorem dX5_count_119 : decode cX5_count 119 = .ok (.ireturn, 1) := by decide +kernel
theorem dX5_count_120 : decode cX5_count 120 = .ok (.aload_n 0, 1) := by decide +kernel
theorem dX5_count_121 : decode cX5_count 121 = .ok (.getfield 14, 3) := by decide +kernel
theorem dX5_count_124 : decode cX5_count 124 = .ok (.iconst 1, 1) := by decide +kernel
theorem dX5_count_125 : decode cX5_count 125 = .ok (.iaload, 1) := by decide +kernel
theorem dX5_count_126 : decode cX5_count 126 = .ok (.ireturn, 1) := by decide +kernel
theorem dX5_count_127 : decode cX5_count 127 = .ok (.aload_n 0, 1) := by decide +kernel
theorem dX5_count_128 : decode cX5_count 128 = .ok (.getfield 14, 3) := by decide +kernel
theorem dX5_count_131 : decode cX5_count 131 = .ok (.iconst 2, 1) := by decide +kernel
theorem dX5_count_132 : decode cX5_count 132 = .ok (.iaload, 1) := by decide +kernel
theorem dX5_count_133 : decode cX5_count 133 = .ok (.ireturn, 1) := by decide +kernel
theorem dX5_count_134 : decode cX5_count 134 = .ok (.aload_n 0, 1) := by decide +kernel
theorem dX5_count_135 : decode cX5_count 135 = .ok (.getfield 14, 3) := by decide +kernel
theorem dX5_count_138 : decode cX5_count 138 = .ok (.iconst 3, 1) := by decide +kernel
theorem dX5_count_139 : decode cX5_count 139 = .ok (.iaload, 1) := by decide +kernel
theorem dX5_count_140 : decode cX5_count 140 = .ok (.ireturn, 1) := by decide +kernel
theorem dX5_count_141 : decode cX5_count 141 = .ok (.iconst (-1), 1) := by decide +kernel
theorem dX5_count_142 : decode cX5_count 142 = .ok (.ireturn, 1) := by decide +kernel
theorem dX5_isWithin_0 : decode cX5_isWithin 0 = .ok (.iload_n 0, 1) := by decide +kernel
theorem dX5_isWithin_1 : decode cX5_isWithin 1 = .ok (.iload_n 1, 1) := by decide +kernel
theorem dX5_isWithin_2 : decode cX5_isWithin 2 = .ok (.if_icmp .lt 12, 3) := by decide +kernel
theorem dX5_isWithin_5 : decode cX5_isWithin 5 = .ok (.iload_n 0, 1) := by decide +kernel
theorem dX5_isWithin_6 : decode cX5_isWithin 6 = .ok (.iload_n 2, 1) := by decide +kernel
theorem dX5_isWithin_7 : decode cX5_isWithin 7 = .ok (.if_icmp .gt 7, 3) := by decide +kernel
theorem dX5_isWithin_10 : decode cX5_isWithin 10 = .ok (.iconst 1, 1) := by decide +kernel
theorem dX5_isWithin_11 : decode cX5_isWithin 11 = .ok (.goto 4, 3) := by decide +kernel
theorem dX5_isWithin_14 : decode cX5_isWithin 14 = .ok (.iconst 0, 1) := by decide +kernel
theorem dX5_isWithin_15 : decode cX5_isWithin 15 = .ok (.ireturn, 1) := by decide +kernel
theorem dX5_isAccount_0 : decode cX5_isAccount 0 = .ok (.iload_n 0, 1) := by decide +kernel
theorem dX5_isAccount_1 : decode cX5_isAccount 1 = .ok (.iconst 0, 1) := by decide +kernel
theorem dX5_isAccount_2 : decode cX5_isAccount 2 = .ok (.bipush 9, 2) := by decide +kernel
theorem dX5_isAccount_4 : decode cX5_isAccount 4 = .ok (.invokestatic 59, 3) := by decide +kernel
theorem dX5_isAccount_7 : decode cX5_isAccount 7 = .ok (.ireturn, 1) := by decide +kernel
theorem dX5_isMove_0 : decode cX5_isMove 0 = .ok (.iload_n 1, 1) := by decide +kernel
theorem dX5_isMove_1 : decode cX5_isMove 1 = .ok (.invokestatic 63, 3) := by decide +kernel
theorem dX5_isMove_4 : decode cX5_isMove 4 = .ok (.ifCond .eq 28, 3) := by decide +kernel
theorem dX5_isMove_7 : decode cX5_isMove 7 = .ok (.aload_n 0, 1) := by decide +kernel
theorem dX5_isMove_8 : decode cX5_isMove 8 = .ok (.getfield 28, 3) := by decide +kernel
theorem dX5_isMove_11 : decode cX5_isMove 11 = .ok (.iload_n 2, 1) := by decide +kernel
theorem dX5_isMove_12 : decode cX5_isMove 12 = .ok (.invokevirtual 100, 3) := by decide +kernel
theorem dX5_isMove_15 : decode cX5_isMove 15 = .ok (.ifCond .eq 17, 3) := by decide +kernel
theorem dX5_isMove_18 : decode cX5_isMove 18 = .ok (.iload_n 3, 1) := by decide +kernel
theorem dX5_isMove_19 : decode cX5_isMove 19 = .ok (.iconst 1, 1) := by decide +kernel
theorem dX5_isMove_20 : decode cX5_isMove 20 = .ok (.ldc 13, 2) := by decide +kernel
theorem dX5_isMove_22 : decode cX5_isMove 22 = .ok (.invokestatic 59, 3) := by decide +kernel
theorem dX5_isMove_25 : decode cX5_isMove 25 = .ok (.ifCond .eq 7, 3) := by decide +kernel
theorem dX5_isMove_28 : decode cX5_isMove 28 = .ok (.iconst 1, 1) := by decide +kernel
theorem dX5_isMove_29 : decode cX5_isMove 29 = .ok (.goto 4, 3) := by decide +kernel
theorem dX5_isMove_32 : decode cX5_isMove 32 = .ok (.iconst 0, 1) := by decide +kernel
theorem dX5_isMove_33 : decode cX5_isMove 33 = .ok (.ireturn, 1) := by decide +kernel
theorem dX5_hasSet_0 : decode cX5_hasSet 0 = .ok (.iload_n 1, 1) := by decide +kernel
theorem dX5_hasSet_1 : decode cX5_hasSet 1 = .ok (.iconst 0, 1) := by decide +kernel
theorem dX5_hasSet_2 : decode cX5_hasSet 2 = .ok (.aload_n 0, 1) := by decide +kernel
theorem dX5_hasSet_3 : decode cX5_hasSet 3 = .ok (.getfield 7, 3) := by decide +kernel
theorem dX5_hasSet_6 : decode cX5_hasSet 6 = .ok (.invokestatic 59, 3) := by decide +kernel
theorem dX5_hasSet_9 : decode cX5_hasSet 9 = .ok (.ireturn, 1) := by decide +kernel
theorem dX5_isUpward_0 : decode cX5_isUpward 0 = .ok (.aload_n 0, 1) := by decide +kernel
theorem dX5_isUpward_1 : decode cX5_isUpward 1 = .ok (.iload_n 1, 1) := by decide +kernel
theorem dX5_isUpward_2 : decode cX5_isUpward 2 = .ok (.invokevirtual 128, 3) := by decide +kernel
theorem dX5_isUpward_5 : decode cX5_isUpward 5 = .ok (.ifCond .eq 20, 3) := by decide +kernel
theorem dX5_isUpward_8 : decode cX5_isUpward 8 = .ok (.aload_n 0, 1) := by decide +kernel
theorem dX5_isUpward_9 : decode cX5_isUpward 9 = .ok (.iload_n 2, 1) := by decide +kernel
theorem dX5_isUpward_10 : decode cX5_isUpward 10 = .ok (.invokevirtual 128, 3) := by decide +kernel
theorem dX5_isUpward_13 : decode cX5_isUpward 13 = .ok (.ifCond .eq 12, 3) := by decide +kernel
theorem dX5_isUpward_16 : decode cX5_isUpward 16 = .ok (.iload_n 1, 1) := by decide +kernel
theorem dX5_isUpward_17 : decode cX5_isUpward 17 = .ok (.iload_n 2, 1) := by decide +kernel
theorem dX5_isUpward_18 : decode cX5_isUpward 18 = .ok (.if_icmp .ge 7, 3) := by decide +kernel
theorem dX5_isUpward_21 : decode cX5_isUpward 21 = .ok (.iconst 1, 1) := by decide +kernel
theorem dX5_isUpward_22 : decode cX5_isUpward 22 = .ok (.goto 4, 3) := by decide +kernel
theorem dX5_isUpward_25 : decode cX5_isUpward 25 = .ok (.iconst 0, 1) := by decide +kernel
theorem dX5_isUpward_26 : decode cX5_isUpward 26 = .ok (.ireturn, 1) := by decide +kernel
theorem dX5_stakePlace_0 : decode cX5_stakePlace 0 = .ok (.iload_n 0, 1) := by decide +kernel
theorem dX5_stakePlace_1 : decode cX5_stakePlace 1 = .ok (.bipush 10, 2) := by decide +kernel
theorem dX5_stakePlace_3 : decode cX5_stakePlace 3 = .ok (.imul, 1) := by decide +kernel
theorem dX5_stakePlace_4 : decode cX5_stakePlace 4 = .ok (.iload_n 1, 1) := by decide +kernel
theorem dX5_stakePlace_5 : decode cX5_stakePlace 5 = .ok (.iadd, 1) := by decide +kernel
theorem dX5_stakePlace_6 : decode cX5_stakePlace 6 = .ok (.ireturn, 1) := by decide +kernel
theorem dX5_duePlace_0 : decode cX5_duePlace 0 = .ok (.iload_n 0, 1) := by decide +kernel
theorem dX5_duePlace_1 : decode cX5_duePlace 1 = .ok (.bipush 110, 2) := by decide +kernel
theorem dX5_duePlace_3 : decode cX5_duePlace 3 = .ok (.imul, 1) := by decide +kernel
theorem dX5_duePlace_4 : decode cX5_duePlace 4 = .ok (.iload_n 1, 1) := by decide +kernel
theorem dX5_duePlace_5 : decode cX5_duePlace 5 = .ok (.iadd, 1) := by decide +kernel
theorem dX5_duePlace_6 : decode cX5_duePlace 6 = .ok (.ireturn, 1) := by decide +kernel
theorem dX5_setPlace_0 : decode cX5_setPlace 0 = .ok (.iload_n 0, 1) := by decide +kernel
theorem dX5_setPlace_1 : decode cX5_setPlace 1 = .ok (.bipush 8, 2) := by decide +kernel
theorem dX5_setPlace_3 : decode cX5_setPlace 3 = .ok (.imul, 1) := by decide +kernel
theorem dX5_setPlace_4 : decode cX5_setPlace 4 = .ok (.iload_n 1, 1) := by decide +kernel
theorem dX5_setPlace_5 : decode cX5_setPlace 5 = .ok (.iadd, 1) := by decide +kernel
theorem dX5_setPlace_6 : decode cX5_setPlace 6 = .ok (.ireturn, 1) := by decide +kernel
theorem dX5_beginNextHeight_0 : decode cX5_beginNextHeight 0 = .ok (.aload_n 0, 1) := by decide +kernel
theorem dX5_beginNextHeight_1 : decode cX5_beginNextHeight 1 = .ok (.invokevirtual 186, 3) := by decide +kernel
theorem dX5_beginNextHeight_4 : decode cX5_beginNextHeight 4 = .ok (.aload_n 0, 1) := by decide +kernel
theorem dX5_beginNextHeight_5 : decode cX5_beginNextHeight 5 = .ok (.dup, 1) := by decide +kernel
theorem dX5_beginNextHeight_6 : decode cX5_beginNextHeight 6 = .ok (.getfield 7, 3) := by decide +kernel
theorem dX5_beginNextHeight_9 : decode cX5_beginNextHeight 9 = .ok (.iconst 1, 1) := by decide +kernel
theorem dX5_beginNextHeight_10 : decode cX5_beginNextHeight 10 = .ok (.iadd, 1) := by decide +kernel
theorem dX5_beginNextHeight_11 : decode cX5_beginNextHeight 11 = .ok (.putfield 7, 3) := by decide +kernel
theorem dX5_beginNextHeight_14 : decode cX5_beginNextHeight 14 = .ok (.aload_n 0, 1) := by decide +kernel
theorem dX5_beginNextHeight_15 : decode cX5_beginNextHeight 15 = .ok (.getfield 21, 3) := by decide +kernel
theorem dX5_beginNextHeight_18 : decode cX5_beginNextHeight 18 = .ok (.aload_n 0, 1) := by decide +kernel
theorem dX5_beginNextHeight_19 : decode cX5_beginNextHeight 19 = .ok (.getfield 7, 3) := by decide +kernel
theorem dX5_beginNextHeight_22 : decode cX5_beginNextHeight 22 = .ok (.invokevirtual 189, 3) := by decide +kernel
theorem dX5_beginNextHeight_25 : decode cX5_beginNextHeight 25 = .ok (.aload_n 0, 1) := by decide +kernel
theorem dX5_beginNextHeight_26 : decode cX5_beginNextHeight 26 = .ok (.getfield 28, 3) := by decide +kernel
theorem dX5_beginNextHeight_29 : decode cX5_beginNextHeight 29 = .ok (.aload_n 0, 1) := by decide +kernel
theorem dX5_beginNextHeight_30 : decode cX5_beginNextHeight 30 = .ok (.getfield 7, 3) := by decide +kernel
theorem dX5_beginNextHeight_33 : decode cX5_beginNextHeight 33 = .ok (.invokevirtual 193, 3) := by decide +kernel
theorem dX5_beginNextHeight_36 : decode cX5_beginNextHeight 36 = .ok (.aload_n 0, 1) := by decide +kernel
theorem dX5_beginNextHeight_37 : decode cX5_beginNextHeight 37 = .ok (.invokevirtual 196, 3) := by decide +kernel
theorem dX5_beginNextHeight_40 : decode cX5_beginNextHeight 40 = .ok (.return_, 1) := by decide +kernel
theorem dX5_giveRewards_0 : decode cX5_giveRewards 0 = .ok (.aload_n 0, 1) := by decide +kernel
theorem dX5_giveRewards_1 : decode cX5_giveRewards 1 = .ok (.getfield 35, 3) := by decide +kernel
theorem dX5_giveRewards_4 : decode cX5_giveRewards 4 = .ok (.getfield 131, 3) := by decide +kernel
theorem dX5_giveRewards_7 : decode cX5_giveRewards 7 = .ok (.aload_n 0, 1) := by decide +kernel
theorem dX5_giveRewards_8 : decode cX5_giveRewards 8 = .ok (.getfield 7, 3) := by decide +kernel
theorem dX5_giveRewards_11 : decode cX5_giveRewards 11 = .ok (.iaload, 1) := by decide +kernel
theorem dX5_giveRewards_12 : decode cX5_giveRewards 12 = .ok (.ifCond .gt 4, 3) := by decide +kernel
theorem dX5_giveRewards_15 : decode cX5_giveRewards 15 = .ok (.return_, 1) := by decide +kernel
theorem dX5_giveRewards_16 : decode cX5_giveRewards 16 = .ok (.aload_n 0, 1) := by decide +kernel
theorem dX5_giveRewards_17 : decode cX5_giveRewards 17 = .ok (.getfield 7, 3) := by decide +kernel
theorem dX5_giveRewards_20 : decode cX5_giveRewards 20 = .ok (.iconst 0, 1) := by decide +kernel
theorem dX5_giveRewards_21 : decode cX5_giveRewards 21 = .ok (.invokestatic 137, 3) := by decide +kernel
theorem dX5_giveRewards_24 : decode cX5_giveRewards 24 = .ok (.istore_n 1, 1) := by decide +kernel
theorem dX5_giveRewards_25 : decode cX5_giveRewards 25 = .ok (.aload_n 0, 1) := by decide +kernel
theorem dX5_giveRewards_26 : decode cX5_giveRewards 26 = .ok (.getfield 42, 3) := by decide +kernel
theorem dX5_giveRewards_29 : decode cX5_giveRewards 29 = .ok (.aload_n 0, 1) := by decide +kernel
theorem dX5_giveRewards_30 : decode cX5_giveRewards 30 = .ok (.invokevirtual 199, 3) := by decide +kernel
theorem dX5_giveRewards_33 : decode cX5_giveRewards 33 = .ok (.aload_n 0, 1) := by decide +kernel
theorem dX5_giveRewards_34 : decode cX5_giveRewards 34 = .ok (.getfield 35, 3) := by decide +kernel
theorem dX5_giveRewards_37 : decode cX5_giveRewards 37 = .ok (.getfield 134, 3) := by decide +kernel
theorem dX5_giveRewards_40 : decode cX5_giveRewards 40 = .ok (.iload_n 1, 1) := by decide +kernel
theorem dX5_giveRewards_41 : decode cX5_giveRewards 41 = .ok (.bipush 8, 2) := by decide +kernel
theorem dX5_giveRewards_43 : decode cX5_giveRewards 43 = .ok (.invokevirtual 202, 3) := by decide +kernel
theorem dX5_giveRewards_46 : decode cX5_giveRewards 46 = .ok (.aload_n 0, 1) := by decide +kernel
theorem dX5_giveRewards_47 : decode cX5_giveRewards 47 = .ok (.getfield 42, 3) := by decide +kernel
theorem dX5_giveRewards_50 : decode cX5_giveRewards 50 = .ok (.getfield 206, 3) := by decide +kernel
theorem dX5_giveRewards_53 : decode cX5_giveRewards 53 = .ok (.iconst 0, 1) := by decide +kernel
theorem dX5_giveRewards_54 : decode cX5_giveRewards 54 = .ok (.aload_n 0, 1) := by decide +kernel
theorem dX5_giveRewards_55 : decode cX5_giveRewards 55 = .ok (.getfield 35, 3) := by decide +kernel
theorem dX5_giveRewards_58 : decode cX5_giveRewards 58 = .ok (.getfield 143, 3) := by decide +kernel
theorem dX5_giveRewards_61 : decode cX5_giveRewards 61 = .ok (.iload_n 1, 1) := by decide +kernel
theorem dX5_giveRewards_62 : decode cX5_giveRewards 62 = .ok (.bipush 8, 2) := by decide +kernel
theorem dX5_giveRewards_64 : decode cX5_giveRewards 64 = .ok (.invokestatic 209, 3) := by decide +kernel
theorem dX5_giveRewards_67 : decode cX5_giveRewards 67 = .ok (.iconst 0, 1) := by decide +kernel
theorem dX5_giveRewards_68 : decode cX5_giveRewards 68 = .ok (.istore_n 2, 1) := by decide +kernel
theorem dX5_giveRewards_69 : decode cX5_giveRewards 69 = .ok (.iload_n 2, 1) := by decide +kernel
theorem dX5_giveRewards_70 : decode cX5_giveRewards 70 = .ok (.aload_n 0, 1) := by decide +kernel
theorem dX5_giveRewards_71 : decode cX5_giveRewards 71 = .ok (.getfield 28, 3) := by decide +kernel
theorem dX5_giveRewards_74 : decode cX5_giveRewards 74 = .ok (.getfield 74, 3) := by decide +kernel
theorem dX5_giveRewards_77 : decode cX5_giveRewards 77 = .ok (.if_icmp .ge 25, 3) := by decide +kernel
theorem dX5_giveRewards_80 : decode cX5_giveRewards 80 = .ok (.aload_n 0, 1) := by decide +kernel
theorem dX5_giveRewards_81 : decode cX5_giveRewards 81 = .ok (.iload_n 2, 1) := by decide +kernel
theorem dX5_giveRewards_82 : decode cX5_giveRewards 82 = .ok (.aload_n 0, 1) := by decide +kernel
theorem dX5_giveRewards_83 : decode cX5_giveRewards 83 = .ok (.getfield 35, 3) := by decide +kernel
theorem dX5_giveRewards_86 : decode cX5_giveRewards 86 = .ok (.getfield 143, 3) := by decide +kernel
theorem dX5_giveRewards_89 : decode cX5_giveRewards 89 = .ok (.iload_n 1, 1) := by decide +kernel
theorem dX5_giveRewards_90 : decode cX5_giveRewards 90 = .ok (.iload_n 2, 1) := by decide +kernel
theorem dX5_giveRewards_91 : decode cX5_giveRewards 91 = .ok (.iadd, 1) := by decide +kernel
theorem dX5_giveRewards_92 : decode cX5_giveRewards 92 = .ok (.iaload, 1) := by decide +kernel
theorem dX5_giveRewards_93 : decode cX5_giveRewards 93 = .ok (.invokevirtual 215, 3) := by decide +kernel
theorem dX5_giveRewards_96 : decode cX5_giveRewards 96 = .ok (.iinc 2 1, 3) := by decide +kernel
theorem dX5_giveRewards_99 : decode cX5_giveRewards 99 = .ok (.goto (-30), 3) := by decide +kernel
theorem dX5_giveRewards_102 : decode cX5_giveRewards 102 = .ok (.return_, 1) := by decide +kernel
theorem dX5_pot_0 : decode cX5_pot 0 = .ok (.aload_n 0, 1) := by decide +kernel
theorem dX5_pot_1 : decode cX5_pot 1 = .ok (.getfield 14, 3) := by decide +kernel
theorem dX5_pot_4 : decode cX5_pot 4 = .ok (.iconst 2, 1) := by decide +kernel
theorem dX5_pot_5 : decode cX5_pot 5 = .ok (.iaload, 1) := by decide +kernel
theorem dX5_pot_6 : decode cX5_pot 6 = .ok (.istore_n 1, 1) := by decide +kernel
theorem dX5_pot_7 : decode cX5_pot 7 = .ok (.iload_n 1, 1) := by decide +kernel
theorem dX5_pot_8 : decode cX5_pot 8 = .ok (.iconst 1, 1) := by decide +kernel
theorem dX5_pot_9 : decode cX5_pot 9 = .ok (.if_icmp .ge 5, 3) := by decide +kernel
theorem dX5_pot_12 : decode cX5_pot 12 = .ok (.iconst 0, 1) := by decide +kernel
theorem dX5_pot_13 : decode cX5_pot 13 = .ok (.ireturn, 1) := by decide +kernel
theorem dX5_pot_14 : decode cX5_pot 14 = .ok (.aload_n 0, 1) := by decide +kernel
theorem dX5_pot_15 : decode cX5_pot 15 = .ok (.getfield 7, 3) := by decide +kernel
theorem dX5_pot_18 : decode cX5_pot 18 = .ok (.iload_n 1, 1) := by decide +kernel
theorem dX5_pot_19 : decode cX5_pot 19 = .ok (.idiv, 1) := by decide +kernel
theorem dX5_pot_20 : decode cX5_pot 20 = .ok (.istore_n 2, 1) := by decide +kernel
theorem dX5_pot_21 : decode cX5_pot 21 = .ok (.iload_n 2, 1) := by decide +kernel
theorem dX5_pot_22 : decode cX5_pot 22 = .ok (.bipush 30, 2) := by decide +kernel
theorem dX5_pot_24 : decode cX5_pot 24 = .ok (.if_icmp .le 7, 3) := by decide +kernel
theorem dX5_pot_27 : decode cX5_pot 27 = .ok (.iconst 0, 1) := by decide +kernel
theorem dX5_pot_28 : decode cX5_pot 28 = .ok (.goto 11, 3) := by decide +kernel
theorem dX5_pot_31 : decode cX5_pot 31 = .ok (.aload_n 0, 1) := by decide +kernel
theorem dX5_pot_32 : decode cX5_pot 32 = .ok (.getfield 14, 3) := by decide +kernel
theorem dX5_pot_35 : decode cX5_pot 35 = .ok (.iconst 1, 1) := by decide +kernel
theorem dX5_pot_36 : decode cX5_pot 36 = .ok (.iaload, 1) := by decide +kernel
theorem dX5_pot_37 : decode cX5_pot 37 = .ok (.iload_n 2, 1) := by decide +kernel
theorem dX5_pot_38 : decode cX5_pot 38 = .ok (.ishr, 1) := by decide +kernel
theorem dX5_pot_39 : decode cX5_pot 39 = .ok (.ireturn, 1) := by decide +kernel
theorem dX5_payNode_0 : decode cX5_payNode 0 = .ok (.iload_n 2, 1) := by decide +kernel
theorem dX5_payNode_1 : decode cX5_payNode 1 = .ok (.aload_n 0, 1) := by decide +kernel
theorem dX5_payNode_2 : decode cX5_payNode 2 = .ok (.getfield 28, 3) := by decide +kernel
theorem dX5_payNode_5 : decode cX5_payNode 5 = .ok (.getfield 122, 3) := by decide +kernel
theorem dX5_payNode_8 : decode cX5_payNode 8 = .ok (.iload_n 1, 1) := by decide +kernel
theorem dX5_payNode_9 : decode cX5_payNode 9 = .ok (.iaload, 1) := by decide +kernel
theorem dX5_payNode_10 : decode cX5_payNode 10 = .ok (.imul, 1) := by decide +kernel
theorem dX5_payNode_11 : decode cX5_payNode 11 = .ok (.bipush 100, 2) := by decide +kernel
theorem dX5_payNode_13 : decode cX5_payNode 13 = .ok (.idiv, 1) := by decide +kernel
theorem dX5_payNode_14 : decode cX5_payNode 14 = .ok (.istore_n 3, 1) := by decide +kernel
theorem dX5_payNode_15 : decode cX5_payNode 15 = .ok (.aload_n 0, 1) := by decide +kernel
theorem dX5_payNode_16 : decode cX5_payNode 16 = .ok (.getfield 21, 3) := by decide +kernel
theorem dX5_payNode_19 : decode cX5_payNode 19 = .ok (.getfield 71, 3) := by decide +kernel
theorem dX5_payNode_22 : decode cX5_payNode 22 = .ok (.aload_n 0, 1) := by decide +kernel
theorem dX5_payNode_23 : decode cX5_payNode 23 = .ok (.getfield 28, 3) := by decide +kernel
theorem dX5_payNode_26 : decode cX5_payNode 26 = .ok (.getfield 119, 3) := by decide +kernel
theorem dX5_payNode_29 : decode cX5_payNode 29 = .ok (.iload_n 1, 1) := by decide +kernel
theorem dX5_payNode_30 : decode cX5_payNode 30 = .ok (.iaload, 1) := by decide +kernel
theorem dX5_payNode_31 : decode cX5_payNode 31 = .ok (.dup2, 1) := by decide +kernel
theorem dX5_payNode_32 : decode cX5_payNode 32 = .ok (.iaload, 1) := by decide +kernel
theorem dX5_payNode_33 : decode cX5_payNode 33 = .ok (.iload_n 3, 1) := by decide +kernel
theorem dX5_payNode_34 : decode cX5_payNode 34 = .ok (.iadd, 1) := by decide +kernel
theorem dX5_payNode_35 : decode cX5_payNode 35 = .ok (.iastore, 1) := by decide +kernel
theorem dX5_payNode_36 : decode cX5_payNode 36 = .ok (.aload_n 0, 1) := by decide +kernel
theorem dX5_payNode_37 : decode cX5_payNode 37 = .ok (.getfield 42, 3) := by decide +kernel
theorem dX5_payNode_40 : decode cX5_payNode 40 = .ok (.iload_n 2, 1) := by decide +kernel
theorem dX5_payNode_41 : decode cX5_payNode 41 = .ok (.iload_n 3, 1) := by decide +kernel
theorem dX5_payNode_42 : decode cX5_payNode 42 = .ok (.isub, 1) := by decide +kernel
theorem dX5_payNode_43 : decode cX5_payNode 43 = .ok (.aload_n 0, 1) := by decide +kernel
theorem dX5_payNode_44 : decode cX5_payNode 44 = .ok (.getfield 35, 3) := by decide +kernel
theorem dX5_payNode_47 : decode cX5_payNode 47 = .ok (.getfield 219, 3) := by decide +kernel
theorem dX5_payNode_50 : decode cX5_payNode 50 = .ok (.iload_n 1, 1) := by decide +kernel
theorem dX5_payNode_51 : decode cX5_payNode 51 = .ok (.iconst 0, 1) := by decide +kernel
theorem dX5_payNode_52 : decode cX5_payNode 52 = .ok (.invokestatic 84, 3) := by decide +kernel
theorem dX5_payNode_55 : decode cX5_payNode 55 = .ok (.bipush 10, 2) := by decide +kernel
theorem dX5_payNode_57 : decode cX5_payNode 57 = .ok (.invokevirtual 202, 3) := by decide +kernel
theorem dX5_payNode_60 : decode cX5_payNode 60 = .ok (.iconst 0, 1) := by decide +kernel
theorem dX5_payNode_61 : decode cX5_payNode 61 = .ok (.istore 4, 2) := by decide +kernel
theorem dX5_payNode_63 : decode cX5_payNode 63 = .ok (.iload 4, 2) := by decide +kernel
theorem dX5_payNode_65 : decode cX5_payNode 65 = .ok (.bipush 10, 2) := by decide +kernel
theorem dX5_payNode_67 : decode cX5_payNode 67 = .ok (.if_icmp .ge 32, 3) := by decide +kernel
theorem dX5_payNode_70 : decode cX5_payNode 70 = .ok (.aload_n 0, 1) := by decide +kernel
theorem dX5_payNode_71 : decode cX5_payNode 71 = .ok (.getfield 21, 3) := by decide +kernel
theorem dX5_payNode_74 : decode cX5_payNode 74 = .ok (.getfield 71, 3) := by decide +kernel
theorem dX5_payNode_77 : decode cX5_payNode 77 = .ok (.iload 4, 2) := by decide +kernel
theorem dX5_payNode_79 : decode cX5_payNode 79 = .ok (.dup2, 1) := by decide +kernel
theorem dX5_payNode_80 : decode cX5_payNode 80 = .ok (.iaload, 1) := by decide +kernel
theorem dX5_payNode_81 : decode cX5_payNode 81 = .ok (.aload_n 0, 1) := by decide +kernel
theorem dX5_payNode_82 : decode cX5_payNode 82 = .ok (.getfield 42, 3) := by decide +kernel
theorem dX5_payNode_85 : decode cX5_payNode 85 = .ok (.getfield 206, 3) := by decide +kernel
theorem dX5_payNode_88 : decode cX5_payNode 88 = .ok (.iload 4, 2) := by decide +kernel
theorem dX5_payNode_90 : decode cX5_payNode 90 = .ok (.iaload, 1) := by decide +kernel
theorem dX5_payNode_91 : decode cX5_payNode 91 = .ok (.iadd, 1) := by decide +kernel
theorem dX5_payNode_92 : decode cX5_payNode 92 = .ok (.iastore, 1) := by decide +kernel
theorem dX5_payNode_93 : decode cX5_payNode 93 = .ok (.iinc 4 1, 3) := by decide +kernel
theorem dX5_payNode_96 : decode cX5_payNode 96 = .ok (.goto (-33), 3) := by decide +kernel
theorem dX5_payNode_99 : decode cX5_payNode 99 = .ok (.aload_n 0, 1) := by decide +kernel
theorem dX5_payNode_100 : decode cX5_payNode 100 = .ok (.getfield 21, 3) := by decide +kernel
theorem dX5_payNode_103 : decode cX5_payNode 103 = .ok (.dup, 1) := by decide +kernel
theorem dX5_payNode_104 : decode cX5_payNode 104 = .ok (.getfield 173, 3) := by decide +kernel
theorem dX5_payNode_107 : decode cX5_payNode 107 = .ok (.iload_n 2, 1) := by decide +kernel
theorem dX5_payNode_108 : decode cX5_payNode 108 = .ok (.iadd, 1) := by decide +kernel
theorem dX5_payNode_109 : decode cX5_payNode 109 = .ok (.putfield 173, 3) := by decide +kernel
theorem dX5_payNode_112 : decode cX5_payNode 112 = .ok (.return_, 1) := by decide +kernel
theorem dX5_fixSet_0 : decode cX5_fixSet 0 = .ok (.iconst 0, 1) := by decide +kernel
theorem dX5_fixSet_1 : decode cX5_fixSet 1 = .ok (.istore_n 1, 1) := by decide +kernel
theorem dX5_fixSet_2 : decode cX5_fixSet 2 = .ok (.iload_n 1, 1) := by decide +kernel
theorem dX5_fixSet_3 : decode cX5_fixSet 3 = .ok (.aload_n 0, 1) := by decide +kernel
theorem dX5_fixSet_4 : decode cX5_fixSet 4 = .ok (.getfield 28, 3) := by decide +kernel
theorem dX5_fixSet_7 : decode cX5_fixSet 7 = .ok (.getfield 74, 3) := by decide +kernel
theorem dX5_fixSet_10 : decode cX5_fixSet 10 = .ok (.if_icmp .ge 49, 3) := by decide +kernel
theorem dX5_fixSet_13 : decode cX5_fixSet 13 = .ok (.aload_n 0, 1) := by decide +kernel
theorem dX5_fixSet_14 : decode cX5_fixSet 14 = .ok (.getfield 28, 3) := by decide +kernel
theorem dX5_fixSet_17 : decode cX5_fixSet 17 = .ok (.iload_n 1, 1) := by decide +kernel
theorem dX5_fixSet_18 : decode cX5_fixSet 18 = .ok (.invokevirtual 222, 3) := by decide +kernel
theorem dX5_fixSet_21 : decode cX5_fixSet 21 = .ok (.ifCond .eq 32, 3) := by decide +kernel
theorem dX5_fixSet_24 : decode cX5_fixSet 24 = .ok (.aload_n 0, 1) := by decide +kernel
theorem dX5_fixSet_25 : decode cX5_fixSet 25 = .ok (.getfield 35, 3) := by decide +kernel
theorem dX5_fixSet_28 : decode cX5_fixSet 28 = .ok (.aload_n 0, 1) := by decide +kernel
theorem dX5_fixSet_29 : decode cX5_fixSet 29 = .ok (.getfield 7, 3) := by decide +kernel
theorem dX5_fixSet_32 : decode cX5_fixSet 32 = .ok (.iload_n 1, 1) := by decide +kernel
theorem dX5_fixSet_33 : decode cX5_fixSet 33 = .ok (.aload_n 0, 1) := by decide +kernel
theorem dX5_fixSet_34 : decode cX5_fixSet 34 = .ok (.getfield 21, 3) := by decide +kernel
theorem dX5_fixSet_37 : decode cX5_fixSet 37 = .ok (.iload_n 1, 1) := by decide +kernel
theorem dX5_fixSet_38 : decode cX5_fixSet 38 = .ok (.invokevirtual 125, 3) := by decide +kernel
theorem dX5_fixSet_41 : decode cX5_fixSet 41 = .ok (.aload_n 0, 1) := by decide +kernel
theorem dX5_fixSet_42 : decode cX5_fixSet 42 = .ok (.getfield 14, 3) := by decide +kernel
theorem dX5_fixSet_45 : decode cX5_fixSet 45 = .ok (.iconst 3, 1) := by decide +kernel
theorem dX5_fixSet_46 : decode cX5_fixSet 46 = .ok (.iaload, 1) := by decide +kernel
theorem dX5_fixSet_47 : decode cX5_fixSet 47 = .ok (.invokestatic 225, 3) := by decide +kernel
theorem dX5_fixSet_50 : decode cX5_fixSet 50 = .ok (.invokevirtual 230, 3) := by decide +kernel
theorem dX5_fixSet_53 : decode cX5_fixSet 53 = .ok (.iinc 1 1, 3) := by decide +kernel
theorem dX5_fixSet_56 : decode cX5_fixSet 56 = .ok (.goto (-54), 3) := by decide +kernel
theorem dX5_fixSet_59 : decode cX5_fixSet 59 = .ok (.aload_n 0, 1) := by decide +kernel
theorem dX5_fixSet_60 : decode cX5_fixSet 60 = .ok (.getfield 21, 3) := by decide +kernel
theorem dX5_fixSet_63 : decode cX5_fixSet 63 = .ok (.getfield 87, 3) := by decide +kernel
theorem dX5_fixSet_66 : decode cX5_fixSet 66 = .ok (.iconst 0, 1) := by decide +kernel
theorem dX5_fixSet_67 : decode cX5_fixSet 67 = .ok (.aload_n 0, 1) := by decide +kernel
theorem dX5_fixSet_68 : decode cX5_fixSet 68 = .ok (.getfield 35, 3) := by decide +kernel
theorem dX5_fixSet_71 : decode cX5_fixSet 71 = .ok (.getfield 219, 3) := by decide +kernel
theorem dX5_fixSet_74 : decode cX5_fixSet 74 = .ok (.iconst 0, 1) := by decide +kernel
theorem dX5_fixSet_75 : decode cX5_fixSet 75 = .ok (.bipush 80, 2) := by decide +kernel
theorem dX5_fixSet_77 : decode cX5_fixSet 77 = .ok (.invokestatic 209, 3) := by decide +kernel
theorem dX5_fixSet_80 : decode cX5_fixSet 80 = .ok (.return_, 1) := by decide +kernel
