theorem dX0_init_0 : decode cX0_init 0 = .ok (.aload_n 0, 1) := by decide +kernel
theorem dX0_init_1 : decode cX0_init 1 = .ok (.invokespecial 3, 3) := by decide +kernel
theorem dX0_init_4 : decode cX0_init 4 = .ok (.aload_n 0, 1) := by decide +kernel
theorem dX0_init_5 : decode cX0_init 5 = .ok (.bipush 10, 2) := by decide +kernel
theorem dX0_init_7 : decode cX0_init 7 = .ok (.newarray .int, 2) := by decide +kernel
theorem dX0_init_9 : decode cX0_init 9 = .ok (.putfield 9, 3) := by decide +kernel
theorem dX0_init_12 : decode cX0_init 12 = .ok (.aload_n 0, 1) := by decide +kernel
theorem dX0_init_13 : decode cX0_init 13 = .ok (.bipush 80, 2) := by decide +kernel
theorem dX0_init_15 : decode cX0_init 15 = .ok (.newarray .int, 2) := by decide +kernel
theorem dX0_init_17 : decode cX0_init 17 = .ok (.putfield 15, 3) := by decide +kernel
theorem dX0_init_20 : decode cX0_init 20 = .ok (.aload_n 0, 1) := by decide +kernel
theorem dX0_init_21 : decode cX0_init 21 = .ok (.sipush 1100, 3) := by decide +kernel
theorem dX0_init_24 : decode cX0_init 24 = .ok (.newarray .int, 2) := by decide +kernel
theorem dX0_init_26 : decode cX0_init 26 = .ok (.putfield 18, 3) := by decide +kernel
theorem dX0_init_29 : decode cX0_init 29 = .ok (.return_, 1) := by decide +kernel
theorem dX0_payDue_0 : decode cX0_payDue 0 = .ok (.iconst 0, 1) := by decide +kernel
theorem dX0_payDue_1 : decode cX0_payDue 1 = .ok (.istore_n 2, 1) := by decide +kernel
theorem dX0_payDue_2 : decode cX0_payDue 2 = .ok (.iload_n 2, 1) := by decide +kernel
theorem dX0_payDue_3 : decode cX0_payDue 3 = .ok (.bipush 10, 2) := by decide +kernel
theorem dX0_payDue_5 : decode cX0_payDue 5 = .ok (.if_icmp .ge 37, 3) := by decide +kernel
theorem dX0_payDue_8 : decode cX0_payDue 8 = .ok (.iload_n 2, 1) := by decide +kernel
theorem dX0_payDue_9 : decode cX0_payDue 9 = .ok (.iload_n 1, 1) := by decide +kernel
theorem dX0_payDue_10 : decode cX0_payDue 10 = .ok (.invokestatic 21, 3) := by decide +kernel
theorem dX0_payDue_13 : decode cX0_payDue 13 = .ok (.istore_n 3, 1) := by decide +kernel
theorem dX0_payDue_14 : decode cX0_payDue 14 = .ok (.aload_n 0, 1) := by decide +kernel
theorem dX0_payDue_15 : decode cX0_payDue 15 = .ok (.getfield 9, 3) := by decide +kernel
theorem dX0_payDue_18 : decode cX0_payDue 18 = .ok (.iload_n 2, 1) := by decide +kernel
theorem dX0_payDue_19 : decode cX0_payDue 19 = .ok (.dup2, 1) := by decide +kernel
theorem dX0_payDue_20 : decode cX0_payDue 20 = .ok (.iaload, 1) := by decide +kernel
theorem dX0_payDue_21 : decode cX0_payDue 21 = .ok (.aload_n 0, 1) := by decide +kernel
theorem dX0_payDue_22 : decode cX0_payDue 22 = .ok (.getfield 18, 3) := by decide +kernel
theorem dX0_payDue_25 : decode cX0_payDue 25 = .ok (.iload_n 3, 1) := by decide +kernel
theorem dX0_payDue_26 : decode cX0_payDue 26 = .ok (.iaload, 1) := by decide +kernel
theorem dX0_payDue_27 : decode cX0_payDue 27 = .ok (.iadd, 1) := by decide +kernel
theorem dX0_payDue_28 : decode cX0_payDue 28 = .ok (.iastore, 1) := by decide +kernel
theorem dX0_payDue_29 : decode cX0_payDue 29 = .ok (.aload_n 0, 1) := by decide +kernel
theorem dX0_payDue_30 : decode cX0_payDue 30 = .ok (.getfield 18, 3) := by decide +kernel
theorem dX0_payDue_33 : decode cX0_payDue 33 = .ok (.iload_n 3, 1) := by decide +kernel
theorem dX0_payDue_34 : decode cX0_payDue 34 = .ok (.iconst 0, 1) := by decide +kernel
theorem dX0_payDue_35 : decode cX0_payDue 35 = .ok (.iastore, 1) := by decide +kernel
theorem dX0_payDue_36 : decode cX0_payDue 36 = .ok (.iinc 2 1, 3) := by decide +kernel
theorem dX0_payDue_39 : decode cX0_payDue 39 = .ok (.goto (-37), 3) := by decide +kernel
theorem dX0_payDue_42 : decode cX0_payDue 42 = .ok (.return_, 1) := by decide +kernel
theorem dX0_stakesOfNode_0 : decode cX0_stakesOfNode 0 = .ok (.iconst 0, 1) := by decide +kernel
theorem dX0_stakesOfNode_1 : decode cX0_stakesOfNode 1 = .ok (.istore_n 2, 1) := by decide +kernel
theorem dX0_stakesOfNode_2 : decode cX0_stakesOfNode 2 = .ok (.iconst 0, 1) := by decide +kernel
theorem dX0_stakesOfNode_3 : decode cX0_stakesOfNode 3 = .ok (.istore_n 3, 1) := by decide +kernel
theorem dX0_stakesOfNode_4 : decode cX0_stakesOfNode 4 = .ok (.iload_n 3, 1) := by decide +kernel
theorem dX0_stakesOfNode_5 : decode cX0_stakesOfNode 5 = .ok (.bipush 10, 2) := by decide +kernel
theorem dX0_stakesOfNode_7 : decode cX0_stakesOfNode 7 = .ok (.if_icmp .ge 22, 3) := by decide +kernel
theorem dX0_stakesOfNode_10 : decode cX0_stakesOfNode 10 = .ok (.iload_n 2, 1) := by decide +kernel
theorem dX0_stakesOfNode_11 : decode cX0_stakesOfNode 11 = .ok (.aload_n 0, 1) := by decide +kernel
theorem dX0_stakesOfNode_12 : decode cX0_stakesOfNode 12 = .ok (.getfield 15, 3) := by decide +kernel
theorem dX0_stakesOfNode_15 : decode cX0_stakesOfNode 15 = .ok (.iload_n 1, 1) := by decide +kernel
theorem dX0_stakesOfNode_16 : decode cX0_stakesOfNode 16 = .ok (.iload_n 3, 1) := by decide +kernel
theorem dX0_stakesOfNode_17 : decode cX0_stakesOfNode 17 = .ok (.invokestatic 25, 3) := by decide +kernel
theorem dX0_stakesOfNode_20 : decode cX0_stakesOfNode 20 = .ok (.iaload, 1) := by decide +kernel
theorem dX0_stakesOfNode_21 : decode cX0_stakesOfNode 21 = .ok (.iadd, 1) := by decide +kernel
theorem dX0_stakesOfNode_22 : decode cX0_stakesOfNode 22 = .ok (.istore_n 2, 1) := by decide +kernel
theorem dX0_stakesOfNode_23 : decode cX0_stakesOfNode 23 = .ok (.iinc 3 1, 3) := by decide +kernel
theorem dX0_stakesOfNode_26 : decode cX0_stakesOfNode 26 = .ok (.goto (-22), 3) := by decide +kernel
theorem dX0_stakesOfNode_29 : decode cX0_stakesOfNode 29 = .ok (.iload_n 2, 1) := by decide +kernel
theorem dX0_stakesOfNode_30 : decode cX0_stakesOfNode 30 = .ok (.ireturn, 1) := by decide +kernel
theorem dX0_stakesOfAccount_0 : decode cX0_stakesOfAccount 0 = .ok (.iconst 0, 1) := by decide +kernel
theorem dX0_stakesOfAccount_1 : decode cX0_stakesOfAccount 1 = .ok (.istore_n 2, 1) := by decide +kernel
theorem dX0_stakesOfAccount_2 : decode cX0_stakesOfAccount 2 = .ok (.iconst 0, 1) := by decide +kernel
theorem dX0_stakesOfAccount_3 : decode cX0_stakesOfAccount 3 = .ok (.istore_n 3, 1) := by decide +kernel
theorem dX0_stakesOfAccount_4 : decode cX0_stakesOfAccount 4 = .ok (.iload_n 3, 1) := by decide +kernel
theorem dX0_stakesOfAccount_5 : decode cX0_stakesOfAccount 5 = .ok (.bipush 8, 2) := by decide +kernel
theorem dX0_stakesOfAccount_7 : decode cX0_stakesOfAccount 7 = .ok (.if_icmp .ge 22, 3) := by decide +kernel
theorem dX0_stakesOfAccount_10 : decode cX0_stakesOfAccount 10 = .ok (.iload_n 2, 1) := by decide +kernel
theorem dX0_stakesOfAccount_11 : decode cX0_stakesOfAccount 11 = .ok (.aload_n 0, 1) := by decide +kernel
theorem dX0_stakesOfAccount_12 : decode cX0_stakesOfAccount 12 = .ok (.getfield 15, 3) := by decide +kernel
theorem dX0_stakesOfAccount_15 : decode cX0_stakesOfAccount 15 = .ok (.iload_n 3, 1) := by decide +kernel
theorem dX0_stakesOfAccount_16 : decode cX0_stakesOfAccount 16 = .ok (.iload_n 1, 1) := by decide +kernel
theorem dX0_stakesOfAccount_17 : decode cX0_stakesOfAccount 17 = .ok (.invokestatic 25, 3) := by decide +kernel
theorem dX0_stakesOfAccount_20 : decode cX0_stakesOfAccount 20 = .ok (.iaload, 1) := by decide +kernel
theorem dX0_stakesOfAccount_21 : decode cX0_stakesOfAccount 21 = .ok (.iadd, 1) := by decide +kernel
theorem dX0_stakesOfAccount_22 : decode cX0_stakesOfAccount 22 = .ok (.istore_n 2, 1) := by decide +kernel
theorem dX0_stakesOfAccount_23 : decode cX0_stakesOfAccount 23 = .ok (.iinc 3 1, 3) := by decide +kernel
theorem dX0_stakesOfAccount_26 : decode cX0_stakesOfAccount 26 = .ok (.goto (-22), 3) := by decide +kernel
theorem dX0_stakesOfAccount_29 : decode cX0_stakesOfAccount 29 = .ok (.iload_n 2, 1) := by decide +kernel
theorem dX0_stakesOfAccount_30 : decode cX0_stakesOfAccount 30 = .ok (.ireturn, 1) := by decide +kernel
theorem dX0_dueOfAccount_0 : decode cX0_dueOfAccount 0 = .ok (.iconst 0, 1) := by decide +kernel
theorem dX0_dueOfAccount_1 : decode cX0_dueOfAccount 1 = .ok (.istore_n 2, 1) := by decide +kernel
theorem dX0_dueOfAccount_2 : decode cX0_dueOfAccount 2 = .ok (.iconst 1, 1) := by decide +kernel
theorem dX0_dueOfAccount_3 : decode cX0_dueOfAccount 3 = .ok (.istore_n 3, 1) := by decide +kernel
theorem dX0_dueOfAccount_4 : decode cX0_dueOfAccount 4 = .ok (.iload_n 3, 1) := by decide +kernel
theorem dX0_dueOfAccount_5 : decode cX0_dueOfAccount 5 = .ok (.bipush 109, 2) := by decide +kernel
theorem dX0_dueOfAccount_7 : decode cX0_dueOfAccount 7 = .ok (.if_icmp .gt 22, 3) := by decide +kernel
theorem dX0_dueOfAccount_10 : decode cX0_dueOfAccount 10 = .ok (.iload_n 2, 1) := by decide +kernel
theorem dX0_dueOfAccount_11 : decode cX0_dueOfAccount 11 = .ok (.aload_n 0, 1) := by decide +kernel
theorem dX0_dueOfAccount_12 : decode cX0_dueOfAccount 12 = .ok (.getfield 18, 3) := by decide +kernel
theorem dX0_dueOfAccount_15 : decode cX0_dueOfAccount 15 = .ok (.iload_n 1, 1) := by decide +kernel
theorem dX0_dueOfAccount_16 : decode cX0_dueOfAccount 16 = .ok (.iload_n 3, 1) := by decide +kernel
theorem dX0_dueOfAccount_17 : decode cX0_dueOfAccount 17 = .ok (.invokestatic 21, 3) := by decide +kernel
theorem dX0_dueOfAccount_20 : decode cX0_dueOfAccount 20 = .ok (.iaload, 1) := by decide +kernel
theorem dX0_dueOfAccount_21 : decode cX0_dueOfAccount 21 = .ok (.iadd, 1) := by decide +kernel
theorem dX0_dueOfAccount_22 : decode cX0_dueOfAccount 22 = .ok (.istore_n 2, 1) := by decide +kernel
theorem dX0_dueOfAccount_23 : decode cX0_dueOfAccount 23 = .ok (.iinc 3 1, 3) := by decide +kernel
theorem dX0_dueOfAccount_26 : decode cX0_dueOfAccount 26 = .ok (.goto (-22), 3) := by decide +kernel
theorem dX0_dueOfAccount_29 : decode cX0_dueOfAccount 29 = .ok (.iload_n 2, 1) := by decide +kernel
theorem dX0_dueOfAccount_30 : decode cX0_dueOfAccount 30 = .ok (.ireturn, 1) := by decide +kernel
theorem dX0_allBalances_0 : decode cX0_allBalances 0 = .ok (.iconst 0, 1) := by decide +kernel
theorem dX0_allBalances_1 : decode cX0_allBalances 1 = .ok (.istore_n 1, 1) := by decide +kernel
theorem dX0_allBalances_2 : decode cX0_allBalances 2 = .ok (.iconst 0, 1) := by decide +kernel
theorem dX0_allBalances_3 : decode cX0_allBalances 3 = .ok (.istore_n 2, 1) := by decide +kernel
theorem dX0_allBalances_4 : decode cX0_allBalances 4 = .ok (.iload_n 2, 1) := by decide +kernel
theorem dX0_allBalances_5 : decode cX0_allBalances 5 = .ok (.bipush 10, 2) := by decide +kernel
theorem dX0_allBalances_7 : decode cX0_allBalances 7 = .ok (.if_icmp .ge 18, 3) := by decide +kernel
theorem dX0_allBalances_10 : decode cX0_allBalances 10 = .ok (.iload_n 1, 1) := by decide +kernel
theorem dX0_allBalances_11 : decode cX0_allBalances 11 = .ok (.aload_n 0, 1) := by decide +kernel
theorem dX0_allBalances_12 : decode cX0_allBalances 12 = .ok (.getfield 9, 3) := by decide +kernel
theorem dX0_allBalances_15 : decode cX0_allBalances 15 = .ok (.iload_n 2, 1) := by decide +kernel
theorem dX0_allBalances_16 : decode cX0_allBalances 16 = .ok (.iaload, 1) := by decide +kernel
theorem dX0_allBalances_17 : decode cX0_allBalances 17 = .ok (.iadd, 1) := by decide +kernel
theorem dX0_allBalances_18 : decode cX0_allBalances 18 = .ok (.istore_n 1, 1) := by decide +kernel
theorem dX0_allBalances_19 : decode cX0_allBalances 19 = .ok (.iinc 2 1, 3) := by decide +kernel
theorem dX0_allBalances_22 : decode cX0_allBalances 22 = .ok (.goto (-18), 3) := by decide +kernel
theorem dX0_allBalances_25 : decode cX0_allBalances 25 = .ok (.iload_n 1, 1) := by decide +kernel
theorem dX0_allBalances_26 : decode cX0_allBalances 26 = .ok (.ireturn, 1) := by decide +kernel
theorem dX0_allStakes_0 : decode cX0_allStakes 0 = .ok (.iconst 0, 1) := by decide +kernel
theorem dX0_allStakes_1 : decode cX0_allStakes 1 = .ok (.istore_n 1, 1) := by decide +kernel
theorem dX0_allStakes_2 : decode cX0_allStakes 2 = .ok (.iconst 0, 1) := by decide +kernel
theorem dX0_allStakes_3 : decode cX0_allStakes 3 = .ok (.istore_n 2, 1) := by decide +kernel
theorem dX0_allStakes_4 : decode cX0_allStakes 4 = .ok (.iload_n 2, 1) := by decide +kernel
theorem dX0_allStakes_5 : decode cX0_allStakes 5 = .ok (.bipush 8, 2) := by decide +kernel
theorem dX0_allStakes_7 : decode cX0_allStakes 7 = .ok (.if_icmp .ge 17, 3) := by decide +kernel
theorem dX0_allStakes_10 : decode cX0_allStakes 10 = .ok (.iload_n 1, 1) := by decide +kernel
theorem dX0_allStakes_11 : decode cX0_allStakes 11 = .ok (.aload_n 0, 1) := by decide +kernel
theorem dX0_allStakes_12 : decode cX0_allStakes 12 = .ok (.iload_n 2, 1) := by decide +kernel
theorem dX0_allStakes_13 : decode cX0_allStakes 13 = .ok (.invokevirtual 28, 3) := by decide +kernel
theorem dX0_allStakes_16 : decode cX0_allStakes 16 = .ok (.iadd, 1) := by decide +kernel
theorem dX0_allStakes_17 : decode cX0_allStakes 17 = .ok (.istore_n 1, 1) := by decide +kernel
theorem dX0_allStakes_18 : decode cX0_allStakes 18 = .ok (.iinc 2 1, 3) := by decide +kernel
theorem dX0_allStakes_21 : decode cX0_allStakes 21 = .ok (.goto (-17), 3) := by decide +kernel
theorem dX0_allStakes_24 : decode cX0_allStakes 24 = .ok (.iload_n 1, 1) := by decide +kernel
theorem dX0_allStakes_25 : decode cX0_allStakes 25 = .ok (.ireturn, 1) := by decide +kernel
theorem dX0_allDue_0 : decode cX0_allDue 0 = .ok (.iconst 0, 1) := by decide +kernel
theorem dX0_allDue_1 : decode cX0_allDue 1 = .ok (.istore_n 1, 1) := by decide +kernel
theorem dX0_allDue_2 : decode cX0_allDue 2 = .ok (.iconst 0, 1) := by decide +kernel
theorem dX0_allDue_3 : decode cX0_allDue 3 = .ok (.istore_n 2, 1) := by decide +kernel
theorem dX0_allDue_4 : decode cX0_allDue 4 = .ok (.iload_n 2, 1) := by decide +kernel
theorem dX0_allDue_5 : decode cX0_allDue 5 = .ok (.bipush 10, 2) := by decide +kernel
theorem dX0_allDue_7 : decode cX0_allDue 7 = .ok (.if_icmp .ge 17, 3) := by decide +kernel
theorem dX0_allDue_10 : decode cX0_allDue 10 = .ok (.iload_n 1, 1) := by decide +kernel
theorem dX0_allDue_11 : decode cX0_allDue 11 = .ok (.aload_n 0, 1) := by decide +kernel
theorem dX0_allDue_12 : decode cX0_allDue 12 = .ok (.iload_n 2, 1) := by decide +kernel
theorem dX0_allDue_13 : decode cX0_allDue 13 = .ok (.invokevirtual 32, 3) := by decide +kernel
theorem dX0_allDue_16 : decode cX0_allDue 16 = .ok (.iadd, 1) := by decide +kernel
theorem dX0_allDue_17 : decode cX0_allDue 17 = .ok (.istore_n 1, 1) := by decide +kernel
theorem dX0_allDue_18 : decode cX0_allDue 18 = .ok (.iinc 2 1, 3) := by decide +kernel
theorem dX0_allDue_21 : decode cX0_allDue 21 = .ok (.goto (-17), 3) := by decide +kernel
theorem dX0_allDue_24 : decode cX0_allDue 24 = .ok (.iload_n 1, 1) := by decide +kernel
theorem dX0_allDue_25 : decode cX0_allDue 25 = .ok (.ireturn, 1) := by decide +kernel
theorem dX1_init_0 : decode cX1_init 0 = .ok (.aload_n 0, 1) := by decide +kernel
theorem dX1_init_1 : decode cX1_init 1 = .ok (.invokespecial 3, 3) := by decide +kernel
theorem dX1_init_4 : decode cX1_init 4 = .ok (.aload_n 0, 1) := by decide +kernel
theorem dX1_init_5 : decode cX1_init 5 = .ok (.bipush 8, 2) := by decide +kernel
theorem dX1_init_7 : decode cX1_init 7 = .ok (.newarray .int, 2) := by decide +kernel
theorem dX1_init_9 : decode cX1_init 9 = .ok (.putfield 9, 3) := by decide +kernel
theorem dX1_init_12 : decode cX1_init 12 = .ok (.aload_n 0, 1) := by decide +kernel
theorem dX1_init_13 : decode cX1_init 13 = .ok (.bipush 8, 2) := by decide +kernel
theorem dX1_init_15 : decode cX1_init 15 = .ok (.newarray .int, 2) := by decide +kernel
theorem dX1_init_17 : decode cX1_init 17 = .ok (.putfield 15, 3) := by decide +kernel
theorem dX1_init_20 : decode cX1_init 20 = .ok (.aload_n 0, 1) := by decide +kernel
theorem dX1_init_21 : decode cX1_init 21 = .ok (.bipush 8, 2) := by decide +kernel
theorem dX1_init_23 : decode cX1_init 23 = .ok (.newarray .int, 2) := by decide +kernel
theorem dX1_init_25 : decode cX1_init 25 = .ok (.putfield 18, 3) := by decide +kernel
theorem dX1_init_28 : decode cX1_init 28 = .ok (.aload_n 0, 1) := by decide +kernel
theorem dX1_init_29 : decode cX1_init 29 = .ok (.bipush 8, 2) := by decide +kernel
theorem dX1_init_31 : decode cX1_init 31 = .ok (.newarray .int, 2) := by decide +kernel
theorem dX1_init_33 : decode cX1_init 33 = .ok (.putfield 21, 3) := by decide +kernel
theorem dX1_init_36 : decode cX1_init 36 = .ok (.aload_n 0, 1) := by decide +kernel
theorem dX1_init_37 : decode cX1_init 37 = .ok (.bipush 8, 2) := by decide +kernel
theorem dX1_init_39 : decode cX1_init 39 = .ok (.newarray .boolean, 2) := by decide +kernel
theorem dX1_init_41 : decode cX1_init 41 = .ok (.putfield 24, 3) := by decide +kernel
theorem dX1_init_44 : decode cX1_init 44 = .ok (.return_, 1) := by decide +kernel
theorem dX1_has_0 : decode cX1_has 0 = .ok (.iload_n 1, 1) := by decide +kernel
theorem dX1_has_1 : decode cX1_has 1 = .ok (.ifCond .lt 15, 3) := by decide +kernel
theorem dX1_has_4 : decode cX1_has 4 = .ok (.iload_n 1, 1) := by decide +kernel
theorem dX1_has_5 : decode cX1_has 5 = .ok (.aload_n 0, 1) := by decide +kernel
theorem dX1_has_6 : decode cX1_has 6 = .ok (.getfield 28, 3) := by decide +kernel
theorem dX1_has_9 : decode cX1_has 9 = .ok (.if_icmp .ge 7, 3) := by decide +kernel
theorem dX1_has_12 : decode cX1_has 12 = .ok (.iconst 1, 1) := by decide +kernel
theorem dX1_has_13 : decode cX1_has 13 = .ok (.goto 4, 3) := by decide +kernel
theorem dX1_has_16 : decode cX1_has 16 = .ok (.iconst 0, 1) := by decide +kernel
theorem dX1_has_17 : decode cX1_has 17 = .ok (.ireturn, 1) := by decide +kernel
theorem dX1_haveAll_0 : decode cX1_haveAll 0 = .ok (.iload_n 1, 1) := by decide +kernel
theorem dX1_haveAll_1 : decode cX1_haveAll 1 = .ok (.aload_n 0, 1) := by decide +kernel
theorem dX1_haveAll_2 : decode cX1_haveAll 2 = .ok (.getfield 28, 3) := by decide +kernel
theorem dX1_haveAll_5 : decode cX1_haveAll 5 = .ok (.iushr, 1) := by decide +kernel
theorem dX1_haveAll_6 : decode cX1_haveAll 6 = .ok (.ifCond .ne 7, 3) := by decide +kernel
theorem dX1_haveAll_9 : decode cX1_haveAll 9 = .ok (.iconst 1, 1) := by decide +kernel
theorem dX1_haveAll_10 : decode cX1_haveAll 10 = .ok (.goto 4, 3) := by decide +kernel
theorem dX1_haveAll_13 : decode cX1_haveAll 13 = .ok (.iconst 0, 1) := by decide +kernel
theorem dX1_haveAll_14 : decode cX1_haveAll 14 = .ok (.ireturn, 1) := by decide +kernel
theorem dX1_counts_0 : decode cX1_counts 0 = .ok (.aload_n 0, 1) := by decide +kernel
theorem dX1_counts_1 : decode cX1_counts 1 = .ok (.getfield 18, 3) := by decide +kernel
theorem dX1_counts_4 : decode cX1_counts 4 = .ok (.iload_n 1, 1) := by decide +kernel
theorem dX1_counts_5 : decode cX1_counts 5 = .ok (.iaload, 1) := by decide +kernel
theorem dX1_counts_6 : decode cX1_counts 6 = .ok (.iconst 2, 1) := by decide +kernel
theorem dX1_counts_7 : decode cX1_counts 7 = .ok (.if_icmp .eq 13, 3) := by decide +kernel
theorem dX1_counts_10 : decode cX1_counts 10 = .ok (.aload_n 0, 1) := by decide +kernel
theorem dX1_counts_11 : decode cX1_counts 11 = .ok (.getfield 18, 3) := by decide +kernel
theorem dX1_counts_14 : decode cX1_counts 14 = .ok (.iload_n 1, 1) := by decide +kernel
theorem dX1_counts_15 : decode cX1_counts 15 = .ok (.iaload, 1) := by decide +kernel
theorem dX1_counts_16 : decode cX1_counts 16 = .ok (.iconst 3, 1) := by decide +kernel
theorem dX1_counts_17 : decode cX1_counts 17 = .ok (.if_icmp .ne 16, 3) := by decide +kernel
theorem dX1_counts_20 : decode cX1_counts 20 = .ok (.aload_n 0, 1) := by decide +kernel
theorem dX1_counts_21 : decode cX1_counts 21 = .ok (.getfield 24, 3) := by decide +kernel
theorem dX1_counts_24 : decode cX1_counts 24 = .ok (.iload_n 1, 1) := by decide +kernel
theorem dX1_counts_25 : decode cX1_counts 25 = .ok (.baload, 1) := by decide +kernel
theorem dX1_counts_26 : decode cX1_counts 26 = .ok (.ifCond .ne 7, 3) := by decide +kernel
theorem dX1_counts_29 : decode cX1_counts 29 = .ok (.iconst 1, 1) := by decide +kernel
theorem dX1_counts_30 : decode cX1_counts 30 = .ok (.goto 4, 3) := by decide +kernel
theorem dX1_counts_33 : decode cX1_counts 33 = .ok (.iconst 0, 1) := by decide +kernel
theorem dX1_counts_34 : decode cX1_counts 34 = .ok (.ireturn, 1) := by decide +kernel
theorem dX1_open_0 : decode cX1_open 0 = .ok (.aload_n 0, 1) := by decide +kernel
theorem dX1_open_1 : decode cX1_open 1 = .ok (.getfield 28, 3) := by decide +kernel
theorem dX1_open_4 : decode cX1_open 4 = .ok (.istore_n 3, 1) := by decide +kernel
theorem dX1_open_5 : decode cX1_open 5 = .ok (.aload_n 0, 1) := by decide +kernel
theorem dX1_open_6 : decode cX1_open 6 = .ok (.getfield 9, 3) := by decide +kernel
theorem dX1_open_9 : decode cX1_open 9 = .ok (.iload_n 3, 1) := by decide +kernel
theorem dX1_open_10 : decode cX1_open 10 = .ok (.iload_n 1, 1) := by decide +kernel
theorem dX1_open_11 : decode cX1_open 11 = .ok (.iastore, 1) := by decide +kernel
theorem dX1_open_12 : decode cX1_open 12 = .ok (.aload_n 0, 1) := by decide +kernel
theorem dX1_open_13 : decode cX1_open 13 = .ok (.getfield 15, 3) := by decide +kernel
theorem dX1_open_16 : decode cX1_open 16 = .ok (.iload_n 3, 1) := by decide +kernel
theorem dX1_open_17 : decode cX1_open 17 = .ok (.iload_n 2, 1) := by decide +kernel
theorem dX1_open_18 : decode cX1_open 18 = .ok (.iastore, 1) := by decide +kernel
theorem dX1_open_19 : decode cX1_open 19 = .ok (.aload_n 0, 1) := by decide +kernel
theorem dX1_open_20 : decode cX1_open 20 = .ok (.getfield 18, 3) := by decide +kernel
theorem dX1_open_23 : decode cX1_open 23 = .ok (.iload_n 3, 1) := by decide +kernel
theorem dX1_open_24 : decode cX1_open 24 = .ok (.iconst 0, 1) := by decide +kernel
theorem dX1_open_25 : decode cX1_open 25 = .ok (.iastore, 1) := by decide +kernel
theorem dX1_open_26 : decode cX1_open 26 = .ok (.aload_n 0, 1) := by decide +kernel
theorem dX1_open_27 : decode cX1_open 27 = .ok (.getfield 21, 3) := by decide +kernel
theorem dX1_open_30 : decode cX1_open 30 = .ok (.iload_n 3, 1) := by decide +kernel
theorem dX1_open_31 : decode cX1_open 31 = .ok (.bipush (-2), 2) := by decide +kernel
theorem dX1_open_33 : decode cX1_open 33 = .ok (.iastore, 1) := by decide +kernel
theorem dX1_open_34 : decode cX1_open 34 = .ok (.aload_n 0, 1) := by decide +kernel
theorem dX1_open_35 : decode cX1_open 35 = .ok (.dup, 1) := by decide +kernel
theorem dX1_open_36 : decode cX1_open 36 = .ok (.getfield 28, 3) := by decide +kernel
theorem dX1_open_39 : decode cX1_open 39 = .ok (.iconst 1, 1) := by decide +kernel
theorem dX1_open_40 : decode cX1_open 40 = .ok (.iadd, 1) := by decide +kernel
theorem dX1_open_41 : decode cX1_open 41 = .ok (.putfield 28, 3) := by decide +kernel
theorem dX1_open_44 : decode cX1_open 44 = .ok (.iload_n 3, 1) := by decide +kernel
theorem dX1_open_45 : decode cX1_open 45 = .ok (.ireturn, 1) := by decide +kernel
theorem dX1_settle_0 : decode cX1_settle 0 = .ok (.iconst 0, 1) := by decide +kernel
theorem dX1_settle_1 : decode cX1_settle 1 = .ok (.istore_n 2, 1) := by decide +kernel
theorem dX1_settle_2 : decode cX1_settle 2 = .ok (.iload_n 2, 1) := by decide +kernel
theorem dX1_settle_3 : decode cX1_settle 3 = .ok (.aload_n 0, 1) := by decide +kernel
theorem dX1_settle_4 : decode cX1_settle 4 = .ok (.getfield 28, 3) := by decide +kernel
theorem dX1_settle_7 : decode cX1_settle 7 = .ok (.if_icmp .ge 64, 3) := by decide +kernel
theorem dX1_settle_10 : decode cX1_settle 10 = .ok (.aload_n 0, 1) := by decide +kernel
theorem dX1_settle_11 : decode cX1_settle 11 = .ok (.getfield 18, 3) := by decide +kernel
theorem dX1_settle_14 : decode cX1_settle 14 = .ok (.iload_n 2, 1) := by decide +kernel
theorem dX1_settle_15 : decode cX1_settle 15 = .ok (.iaload, 1) := by decide +kernel
theorem dX1_settle_16 : decode cX1_settle 16 = .ok (.iconst 3, 1) := by decide +kernel
theorem dX1_settle_17 : decode cX1_settle 17 = .ok (.if_icmp .ne 31, 3) := by decide +kernel
theorem dX1_settle_20 : decode cX1_settle 20 = .ok (.aload_n 0, 1) := by decide +kernel
theorem dX1_settle_21 : decode cX1_settle 21 = .ok (.getfield 21, 3) := by decide +kernel
theorem dX1_settle_24 : decode cX1_settle 24 = .ok (.iload_n 2, 1) := by decide +kernel
theorem dX1_settle_25 : decode cX1_settle 25 = .ok (.iaload, 1) := by decide +kernel
theorem dX1_settle_26 : decode cX1_settle 26 = .ok (.iload_n 1, 1) := by decide +kernel
theorem dX1_settle_27 : decode cX1_settle 27 = .ok (.if_icmp .ne 21, 3) := by decide +kernel
theorem dX1_settle_30 : decode cX1_settle 30 = .ok (.aload_n 0, 1) := by decide +kernel
theorem dX1_settle_31 : decode cX1_settle 31 = .ok (.getfield 18, 3) := by decide +kernel
theorem dX1_settle_34 : decode cX1_settle 34 = .ok (.iload_n 2, 1) := by decide +kernel
theorem dX1_settle_35 : decode cX1_settle 35 = .ok (.iconst 0, 1) := by decide +kernel
theorem dX1_settle_36 : decode cX1_settle 36 = .ok (.iastore, 1) := by decide +kernel
theorem dX1_settle_37 : decode cX1_settle 37 = .ok (.aload_n 0, 1) := by decide +kernel
theorem dX1_settle_38 : decode cX1_settle 38 = .ok (.getfield 21, 3) := by decide +kernel
theorem dX1_settle_41 : decode cX1_settle 41 = .ok (.iload_n 2, 1) := by decide +kernel
theorem dX1_settle_42 : decode cX1_settle 42 = .ok (.bipush (-2), 2) := by decide +kernel
theorem dX1_settle_44 : decode cX1_settle 44 = .ok (.iastore, 1) := by decide +kernel
theorem dX1_settle_45 : decode cX1_settle 45 = .ok (.goto 20, 3) := by decide +kernel
theorem dX1_settle_48 : decode cX1_settle 48 = .ok (.aload_n 0, 1) := by decide +kernel
theorem dX1_settle_49 : decode cX1_settle 49 = .ok (.getfield 18, 3) := by decide +kernel
theorem dX1_settle_52 : decode cX1_settle 52 = .ok (.iload_n 2, 1) := by decide +kernel
theorem dX1_settle_53 : decode cX1_settle 53 = .ok (.iaload, 1) := by decide +kernel
theorem dX1_settle_54 : decode cX1_settle 54 = .ok (.iconst 1, 1) := by decide +kernel
theorem dX1_settle_55 : decode cX1_settle 55 = .ok (.if_icmp .ne 10, 3) := by decide +kernel
theorem dX1_settle_58 : decode cX1_settle 58 = .ok (.aload_n 0, 1) := by decide +kernel
theorem dX1_settle_59 : decode cX1_settle 59 = .ok (.getfield 18, 3) := by decide +kernel
theorem dX1_settle_62 : decode cX1_settle 62 = .ok (.iload_n 2, 1) := by decide +kernel
theorem dX1_settle_63 : decode cX1_settle 63 = .ok (.iconst 2, 1) := by decide +kernel
theorem dX1_settle_64 : decode cX1_settle 64 = .ok (.iastore, 1) := by decide +kernel
theorem dX1_settle_65 : decode cX1_settle 65 = .ok (.iinc 2 1, 3) := by decide +kernel
theorem dX1_settle_68 : decode cX1_settle 68 = .ok (.goto (-66), 3) := by decide +kernel
theorem dX1_settle_71 : decode cX1_settle 71 = .ok (.return_, 1) := by decide +kernel
theorem dX2_init_0 : decode cX2_init 0 = .ok (.aload_n 0, 1) := by decide +kernel
theorem dX2_init_1 : decode cX2_init 1 = .ok (.invokespecial 3, 3) := by decide +kernel
theorem dX2_init_4 : decode cX2_init 4 = .ok (.aload_n 0, 1) := by decide +kernel
theorem dX2_init_5 : decode cX2_init 5 = .ok (.sipush 808, 3) := by decide +kernel
theorem dX2_init_8 : decode cX2_init 8 = .ok (.newarray .int, 2) := by decide +kernel
theorem dX2_init_10 : decode cX2_init 10 = .ok (.putfield 9, 3) := by decide +kernel
theorem dX2_init_13 : decode cX2_init 13 = .ok (.aload_n 0, 1) := by decide +kernel
theorem dX2_init_14 : decode cX2_init 14 = .ok (.sipush 808, 3) := by decide +kernel
theorem dX2_init_17 : decode cX2_init 17 = .ok (.newarray .int, 2) := by decide +kernel
theorem dX2_init_19 : decode cX2_init 19 = .ok (.putfield 15, 3) := by decide +kernel
theorem dX2_init_22 : decode cX2_init 22 = .ok (.aload_n 0, 1) := by decide +kernel
theorem dX2_init_23 : decode cX2_init 23 = .ok (.bipush 101, 2) := by decide +kernel
theorem dX2_init_25 : decode cX2_init 25 = .ok (.newarray .int, 2) := by decide +kernel
theorem dX2_init_27 : decode cX2_init 27 = .ok (.putfield 18, 3) := by decide +kernel
theorem dX2_init_30 : decode cX2_init 30 = .ok (.aload_n 0, 1) := by decide +kernel
theorem dX2_init_31 : decode cX2_init 31 = .ok (.bipush 101, 2) := by decide +kernel
theorem dX2_init_33 : decode cX2_init 33 = .ok (.newarray .int, 2) := by decide +kernel
theorem dX2_init_35 : decode cX2_init 35 = .ok (.putfield 21, 3) := by decide +kernel
theorem dX2_init_38 : decode cX2_init 38 = .ok (.aload_n 0, 1) := by decide +kernel
theorem dX2_init_39 : decode cX2_init 39 = .ok (.bipush 80, 2) := by decide +kernel
theorem dX2_init_41 : decode cX2_init 41 = .ok (.newarray .int, 2) := by decide +kernel
theorem dX2_init_43 : decode cX2_init 43 = .ok (.putfield 24, 3) := by decide +kernel
theorem dX2_init_46 : decode cX2_init 46 = .ok (.return_, 1) := by decide +kernel
theorem dX2_enter_0 : decode cX2_enter 0 = .ok (.iload_n 3, 1) := by decide +kernel
theorem dX2_enter_1 : decode cX2_enter 1 = .ok (.ifCond .gt 4, 3) := by decide +kernel
theorem dX2_enter_4 : decode cX2_enter 4 = .ok (.return_, 1) := by decide +kernel
theorem dX2_enter_5 : decode cX2_enter 5 = .ok (.aload_n 0, 1) := by decide +kernel
theorem dX2_enter_6 : decode cX2_enter 6 = .ok (.getfield 9, 3) := by decide +kernel
theorem dX2_enter_9 : decode cX2_enter 9 = .ok (.iload_n 1, 1) := by decide +kernel
theorem dX2_enter_10 : decode cX2_enter 10 = .ok (.iload_n 2, 1) := by decide +kernel
theorem dX2_enter_11 : decode cX2_enter 11 = .ok (.invokestatic 27, 3) := by decide +kernel
theorem dX2_enter_14 : decode cX2_enter 14 = .ok (.iload_n 3, 1) := by decide +kernel
theorem dX2_enter_15 : decode cX2_enter 15 = .ok (.iastore, 1) := by decide +kernel
theorem dX2_enter_16 : decode cX2_enter 16 = .ok (.aload_n 0, 1) := by decide +kernel
theorem dX2_enter_17 : decode cX2_enter 17 = .ok (.getfield 18, 3) := by decide +kernel
theorem dX2_enter_20 : decode cX2_enter 20 = .ok (.iload_n 1, 1) := by decide +kernel
theorem dX2_enter_21 : decode cX2_enter 21 = .ok (.dup2, 1) := by decide +kernel
theorem dX2_enter_22 : decode cX2_enter 22 = .ok (.iaload, 1) := by decide +kernel
theorem dX2_enter_23 : decode cX2_enter 23 = .ok (.iload_n 3, 1) := by decide +kernel
theorem dX2_enter_24 : decode cX2_enter 24 = .ok (.iadd, 1) := by decide +kernel
theorem dX2_enter_25 : decode cX2_enter 25 = .ok (.iastore, 1) := by decide +kernel
theorem dX2_enter_26 : decode cX2_enter 26 = .ok (.aload_n 0, 1) := by decide +kernel
theorem dX2_enter_27 : decode cX2_enter 27 = .ok (.getfield 21, 3) := by decide +kernel
theorem dX2_enter_30 : decode cX2_enter 30 = .ok (.iload_n 1, 1) := by decide +kernel
theorem dX2_enter_31 : decode cX2_enter 31 = .ok (.dup2, 1) := by decide +kernel
theorem dX2_enter_32 : decode cX2_enter 32 = .ok (.iaload, 1) := by decide +kernel
theorem dX2_enter_33 : decode cX2_enter 33 = .ok (.iconst 1, 1) := by decide +kernel
theorem dX2_enter_34 : decode cX2_enter 34 = .ok (.iload_n 2, 1) := by decide +kernel
theorem dX2_enter_35 : decode cX2_enter 35 = .ok (.ishl, 1) := by decide +kernel
theorem dX2_enter_36 : decode cX2_enter 36 = .ok (.ior, 1) := by decide +kernel
theorem dX2_enter_37 : decode cX2_enter 37 = .ok (.iastore, 1) := by decide +kernel
theorem dX2_enter_38 : decode cX2_enter 38 = .ok (.return_, 1) := by decide +kernel
theorem dX2_rewardsOf_0 : decode cX2_rewardsOf 0 = .ok (.iconst 0, 1) := by decide +kernel
theorem dX2_rewardsOf_1 : decode cX2_rewardsOf 1 = .ok (.istore_n 2, 1) := by decide +kernel
theorem dX2_rewardsOf_2 : decode cX2_rewardsOf 2 = .ok (.iconst 0, 1) := by decide +kernel
theorem dX2_rewardsOf_3 : decode cX2_rewardsOf 3 = .ok (.istore_n 3, 1) := by decide +kernel
theorem dX2_rewardsOf_4 : decode cX2_rewardsOf 4 = .ok (.iload_n 3, 1) := by decide +kernel
theorem dX2_rewardsOf_5 : decode cX2_rewardsOf 5 = .ok (.bipush 8, 2) := by decide +kernel
theorem dX2_rewardsOf_7 : decode cX2_rewardsOf 7 = .ok (.if_icmp .ge 22, 3) := by decide +kernel
theorem dX2_rewardsOf_10 : decode cX2_rewardsOf 10 = .ok (.iload_n 2, 1) := by decide +kernel
theorem dX2_rewardsOf_11 : decode cX2_rewardsOf 11 = .ok (.aload_n 0, 1) := by decide +kernel
theorem dX2_rewardsOf_12 : decode cX2_rewardsOf 12 = .ok (.getfield 15, 3) := by decide +kernel
theorem dX2_rewardsOf_15 : decode cX2_rewardsOf 15 = .ok (.iload_n 1, 1) := by decide +kernel
theorem dX2_rewardsOf_16 : decode cX2_rewardsOf 16 = .ok (.iload_n 3, 1) := by decide +kernel
theorem dX2_rewardsOf_17 : decode cX2_rewardsOf 17 = .ok (.invokestatic 27, 3) := by decide +kernel
theorem dX2_rewardsOf_20 : decode cX2_rewardsOf 20 = .ok (.iaload, 1) := by decide +kernel
theorem dX2_rewardsOf_21 : decode cX2_rewardsOf 21 = .ok (.iadd, 1) := by decide +kernel
theorem dX2_rewardsOf_22 : decode cX2_rewardsOf 22 = .ok (.istore_n 2, 1) := by decide +kernel
theorem dX2_rewardsOf_23 : decode cX2_rewardsOf 23 = .ok (.iinc 3 1, 3) := by decide +kernel
theorem dX2_rewardsOf_26 : decode cX2_rewardsOf 26 = .ok (.goto (-22), 3) := by decide +kernel
theorem dX2_rewardsOf_29 : decode cX2_rewardsOf 29 = .ok (.iload_n 2, 1) := by decide +kernel
theorem dX2_rewardsOf_30 : decode cX2_rewardsOf 30 = .ok (.ireturn, 1) := by decide +kernel
theorem dX2_weightOf_0 : decode cX2_weightOf 0 = .ok (.iconst 0, 1) := by decide +kernel
theorem dX2_weightOf_1 : decode cX2_weightOf 1 = .ok (.istore_n 3, 1) := by decide +kernel
theorem dX2_weightOf_2 : decode cX2_weightOf 2 = .ok (.iconst 0, 1) := by decide +kernel
theorem dX2_weightOf_3 : decode cX2_weightOf 3 = .ok (.istore 4, 2) := by decide +kernel
theorem dX2_weightOf_5 : decode cX2_weightOf 5 = .ok (.iload 4, 2) := by decide +kernel
theorem dX2_weightOf_7 : decode cX2_weightOf 7 = .ok (.bipush 8, 2) := by decide +kernel
theorem dX2_weightOf_9 : decode cX2_weightOf 9 = .ok (.if_icmp .ge 32, 3) := by decide +kernel
theorem dX2_weightOf_12 : decode cX2_weightOf 12 = .ok (.iload_n 2, 1) := by decide +kernel
theorem dX2_weightOf_13 : decode cX2_weightOf 13 = .ok (.iload 4, 2) := by decide +kernel
theorem dX2_weightOf_15 : decode cX2_weightOf 15 = .ok (.iushr, 1) := by decide +kernel
theorem dX2_weightOf_16 : decode cX2_weightOf 16 = .ok (.iconst 1, 1) := by decide +kernel
theorem dX2_weightOf_17 : decode cX2_weightOf 17 = .ok (.iand, 1) := by decide +kernel
theorem dX2_weightOf_18 : decode cX2_weightOf 18 = .ok (.ifCond .eq 17, 3) := by decide +kernel
theorem dX2_weightOf_21 : decode cX2_weightOf 21 = .ok (.iload_n 3, 1) := by decide +kernel
theorem dX2_weightOf_22 : decode cX2_weightOf 22 = .ok (.aload_n 0, 1) := by decide +kernel
theorem dX2_weightOf_23 : decode cX2_weightOf 23 = .ok (.getfield 9, 3) := by decide +kernel
theorem dX2_weightOf_26 : decode cX2_weightOf 26 = .ok (.iload_n 1, 1) := by decide +kernel
theorem dX2_weightOf_27 : decode cX2_weightOf 27 = .ok (.iload 4, 2) := by decide +kernel
theorem dX2_weightOf_29 : decode cX2_weightOf 29 = .ok (.invokestatic 27, 3) := by decide +kernel
theorem dX2_weightOf_32 : decode cX2_weightOf 32 = .ok (.iaload, 1) := by decide +kernel
theorem dX2_weightOf_33 : decode cX2_weightOf 33 = .ok (.iadd, 1) := by decide +kernel
theorem dX2_weightOf_34 : decode cX2_weightOf 34 = .ok (.istore_n 3, 1) := by decide +kernel
theorem dX2_weightOf_35 : decode cX2_weightOf 35 = .ok (.iinc 4 1, 3) := by decide +kernel
theorem dX2_weightOf_38 : decode cX2_weightOf 38 = .ok (.goto (-33), 3) := by decide +kernel
theorem dX2_weightOf_41 : decode cX2_weightOf 41 = .ok (.iload_n 3, 1) := by decide +kernel
theorem dX2_weightOf_42 : decode cX2_weightOf 42 = .ok (.ireturn, 1) := by decide +kernel
theorem dX2_commonWeight_0 : decode cX2_commonWeight 0 = .ok (.iconst 0, 1) := by decide +kernel
theorem dX2_commonWeight_1 : decode cX2_commonWeight 1 = .ok (.istore_n 3, 1) := by decide +kernel
theorem dX2_commonWeight_2 : decode cX2_commonWeight 2 = .ok (.iconst 0, 1) := by decide +kernel
theorem dX2_commonWeight_3 : decode cX2_commonWeight 3 = .ok (.istore 4, 2) := by decide +kernel
theorem dX2_commonWeight_5 : decode cX2_commonWeight 5 = .ok (.iload 4, 2) := by decide +kernel
theorem dX2_commonWeight_7 : decode cX2_commonWeight 7 = .ok (.bipush 8, 2) := by decide +kernel
theorem dX2_commonWeight_9 : decode cX2_commonWeight 9 = .ok (.if_icmp .ge 37, 3) := by decide +kernel
theorem dX2_commonWeight_12 : decode cX2_commonWeight 12 = .ok (.iload_n 3, 1) := by decide +kernel
theorem dX2_commonWeight_13 : decode cX2_commonWeight 13 = .ok (.aload_n 0, 1) := by decide +kernel
theorem dX2_commonWeight_14 : decode cX2_commonWeight 14 = .ok (.getfield 9, 3) := by decide +kernel
theorem dX2_commonWeight_17 : decode cX2_commonWeight 17 = .ok (.iload_n 1, 1) := by decide +kernel
theorem dX2_commonWeight_18 : decode cX2_commonWeight 18 = .ok (.iload 4, 2) := by decide +kernel
theorem dX2_commonWeight_20 : decode cX2_commonWeight 20 = .ok (.invokestatic 27, 3) := by decide +kernel
theorem dX2_commonWeight_23 : decode cX2_commonWeight 23 = .ok (.iaload, 1) := by decide +kernel
theorem dX2_commonWeight_24 : decode cX2_commonWeight 24 = .ok (.aload_n 0, 1) := by decide +kernel
theorem dX2_commonWeight_25 : decode cX2_commonWeight 25 = .ok (.getfield 9, 3) := by decide +kernel
theorem dX2_commonWeight_28 : decode cX2_commonWeight 28 = .ok (.iload_n 2, 1) := by decide +kernel
theorem dX2_commonWeight_29 : decode cX2_commonWeight 29 = .ok (.iload 4, 2) := by decide +kernel
theorem dX2_commonWeight_31 : decode cX2_commonWeight 31 = .ok (.invokestatic 27, 3) := by decide +kernel
theorem dX2_commonWeight_34 : decode cX2_commonWeight 34 = .ok (.iaload, 1) := by decide +kernel
theorem dX2_commonWeight_35 : decode cX2_commonWeight 35 = .ok (.invokestatic 31, 3) := by decide +kernel
theorem dX2_commonWeight_38 : decode cX2_commonWeight 38 = .ok (.iadd, 1) := by decide +kernel
theorem dX2_commonWeight_39 : decode cX2_commonWeight 39 = .ok (.istore_n 3, 1) := by decide +kernel
theorem dX2_commonWeight_40 : decode cX2_commonWeight 40 = .ok (.iinc 4 1, 3) := by decide +kernel
theorem dX2_commonWeight_43 : decode cX2_commonWeight 43 = .ok (.goto (-38), 3) := by decide +kernel
theorem dX2_commonWeight_46 : decode cX2_commonWeight 46 = .ok (.iload_n 3, 1) := by decide +kernel
theorem dX2_commonWeight_47 : decode cX2_commonWeight 47 = .ok (.ireturn, 1) := by decide +kernel
theorem dX2_isGood_0 : decode cX2_isGood 0 = .ok (.iconst 3, 1) := by decide +kernel
theorem dX2_isGood_1 : decode cX2_isGood 1 = .ok (.aload_n 0, 1) := by decide +kernel
theorem dX2_isGood_2 : decode cX2_isGood 2 = .ok (.iload_n 1, 1) := by decide +kernel
theorem dX2_isGood_3 : decode cX2_isGood 3 = .ok (.iload_n 2, 1) := by decide +kernel
theorem dX2_isGood_4 : decode cX2_isGood 4 = .ok (.invokevirtual 36, 3) := by decide +kernel
theorem dX2_isGood_7 : decode cX2_isGood 7 = .ok (.imul, 1) := by decide +kernel
theorem dX2_isGood_8 : decode cX2_isGood 8 = .ok (.iconst 2, 1) := by decide +kernel
theorem dX2_isGood_9 : decode cX2_isGood 9 = .ok (.aload_n 0, 1) := by decide +kernel
theorem dX2_isGood_10 : decode cX2_isGood 10 = .ok (.getfield 18, 3) := by decide +kernel
theorem dX2_isGood_13 : decode cX2_isGood 13 = .ok (.iload_n 1, 1) := by decide +kernel
theorem dX2_isGood_14 : decode cX2_isGood 14 = .ok (.iaload, 1) := by decide +kernel
theorem dX2_isGood_15 : decode cX2_isGood 15 = .ok (.imul, 1) := by decide +kernel
theorem dX2_isGood_16 : decode cX2_isGood 16 = .ok (.if_icmp .le 7, 3) := by decide +kernel
theorem dX2_isGood_19 : decode cX2_isGood 19 = .ok (.iconst 1, 1) := by decide +kernel
theorem dX2_isGood_20 : decode cX2_isGood 20 = .ok (.goto 4, 3) := by decide +kernel
theorem dX2_isGood_23 : decode cX2_isGood 23 = .ok (.iconst 0, 1) := by decide +kernel
theorem dX2_isGood_24 : decode cX2_isGood 24 = .ok (.ireturn, 1) := by decide +kernel
theorem dX2_allowsJump_0 : decode cX2_allowsJump 0 = .ok (.aload_n 0, 1) := by decide +kernel
theorem dX2_allowsJump_1 : decode cX2_allowsJump 1 = .ok (.iload_n 2, 1) := by decide +kernel
theorem dX2_allowsJump_2 : decode cX2_allowsJump 2 = .ok (.iload_n 3, 1) := by decide +kernel
theorem dX2_allowsJump_3 : decode cX2_allowsJump 3 = .ok (.invokevirtual 39, 3) := by decide +kernel
theorem dX2_allowsJump_6 : decode cX2_allowsJump 6 = .ok (.ifCond .eq 24, 3) := by decide +kernel
theorem dX2_allowsJump_9 : decode cX2_allowsJump 9 = .ok (.iconst 3, 1) := by decide +kernel
theorem dX2_allowsJump_10 : decode cX2_allowsJump 10 = .ok (.aload_n 0, 1) := by decide +kernel
theorem dX2_allowsJump_11 : decode cX2_allowsJump 11 = .ok (.iload_n 1, 1) := by decide +kernel
theorem dX2_allowsJump_12 : decode cX2_allowsJump 12 = .ok (.iload_n 3, 1) := by decide +kernel
theorem dX2_allowsJump_13 : decode cX2_allowsJump 13 = .ok (.invokevirtual 36, 3) := by decide +kernel
theorem dX2_allowsJump_16 : decode cX2_allowsJump 16 = .ok (.imul, 1) := by decide +kernel
theorem dX2_allowsJump_17 : decode cX2_allowsJump 17 = .ok (.aload_n 0, 1) := by decide +kernel
theorem dX2_allowsJump_18 : decode cX2_allowsJump 18 = .ok (.getfield 18, 3) := by decide +kernel
theorem dX2_allowsJump_21 : decode cX2_allowsJump 21 = .ok (.iload_n 1, 1) := by decide +kernel
theorem dX2_allowsJump_22 : decode cX2_allowsJump 22 = .ok (.iaload, 1) := by decide +kernel
theorem dX2_allowsJump_23 : decode cX2_allowsJump 23 = .ok (.if_icmp .le 7, 3) := by decide +kernel
theorem dX2_allowsJump_26 : decode cX2_allowsJump 26 = .ok (.iconst 1, 1) := by decide +kernel
theorem dX2_allowsJump_27 : decode cX2_allowsJump 27 = .ok (.goto 4, 3) := by decide +kernel
theorem dX2_allowsJump_30 : decode cX2_allowsJump 30 = .ok (.iconst 0, 1) := by decide +kernel
theorem dX2_allowsJump_31 : decode cX2_allowsJump 31 = .ok (.ireturn, 1) := by decide +kernel
theorem dX3_init_0 : decode cX3_init 0 = .ok (.aload_n 0, 1) := by decide +kernel
theorem dX3_init_1 : decode cX3_init 1 = .ok (.invokespecial 3, 3) := by decide +kernel
theorem dX3_init_4 : decode cX3_init 4 = .ok (.aload_n 0, 1) := by decide +kernel
theorem dX3_init_5 : decode cX3_init 5 = .ok (.bipush 10, 2) := by decide +kernel
theorem dX3_init_7 : decode cX3_init 7 = .ok (.newarray .int, 2) := by decide +kernel
theorem dX3_init_9 : decode cX3_init 9 = .ok (.putfield 9, 3) := by decide +kernel
theorem dX3_init_12 : decode cX3_init 12 = .ok (.aload_n 0, 1) := by decide +kernel
theorem dX3_init_13 : decode cX3_init 13 = .ok (.bipush 10, 2) := by decide +kernel
theorem dX3_init_15 : decode cX3_init 15 = .ok (.newarray .long, 2) := by decide +kernel
theorem dX3_init_17 : decode cX3_init 17 = .ok (.putfield 15, 3) := by decide +kernel
theorem dX3_init_20 : decode cX3_init 20 = .ok (.return_, 1) := by decide +kernel
theorem dX3_split_0 : decode cX3_split 0 = .ok (.lconst 0, 1) := by decide +kernel
theorem dX3_split_1 : decode cX3_split 1 = .ok (.lstore 5, 2) := by decide +kernel
theorem dX3_split_3 : decode cX3_split 3 = .ok (.iconst 0, 1) := by decide +kernel
theorem dX3_split_4 : decode cX3_split 4 = .ok (.istore 7, 2) := by decide +kernel
theorem dX3_split_6 : decode cX3_split 6 = .ok (.iload 7, 2) := by decide +kernel
theorem dX3_split_8 : decode cX3_split 8 = .ok (.iload 4, 2) := by decide +kernel
theorem dX3_split_10 : decode cX3_split 10 = .ok (.if_icmp .ge 29, 3) := by decide +kernel
theorem dX3_split_13 : decode cX3_split 13 = .ok (.aload_n 0, 1) := by decide +kernel
theorem dX3_split_14 : decode cX3_split 14 = .ok (.getfield 9, 3) := by decide +kernel
theorem dX3_split_17 : decode cX3_split 17 = .ok (.iload 7, 2) := by decide +kernel
theorem dX3_split_19 : decode cX3_split 19 = .ok (.iconst 0, 1) := by decide +kernel
theorem dX3_split_20 : decode cX3_split 20 = .ok (.iastore, 1) := by decide +kernel
theorem dX3_split_21 : decode cX3_split 21 = .ok (.lload 5, 2) := by decide +kernel
theorem dX3_split_23 : decode cX3_split 23 = .ok (.aload_n 2, 1) := by decide +kernel
theorem dX3_split_24 : decode cX3_split 24 = .ok (.iload_n 3, 1) := by decide +kernel
theorem dX3_split_25 : decode cX3_split 25 = .ok (.iload 7, 2) := by decide +kernel
theorem dX3_split_27 : decode cX3_split 27 = .ok (.iadd, 1) := by decide +kernel
theorem dX3_split_28 : decode cX3_split 28 = .ok (.iaload, 1) := by decide +kernel
theorem dX3_split_29 : decode cX3_split 29 = .ok (.i2l, 1) := by decide +kernel
theorem dX3_split_30 : decode cX3_split 30 = .ok (.ladd, 1) := by decide +kernel
theorem dX3_split_31 : decode cX3_split 31 = .ok (.lstore 5, 2) := by decide +kernel
theorem dX3_split_33 : decode cX3_split 33 = .ok (.iinc 7 1, 3) := by decide +kernel
theorem dX3_split_36 : decode cX3_split 36 = .ok (.goto (-30), 3) := by decide +kernel
theorem dX3_split_39 : decode cX3_split 39 = .ok (.lload 5, 2) := by decide +kernel
theorem dX3_split_41 : decode cX3_split 41 = .ok (.lconst 0, 1) := by decide +kernel
theorem dX3_split_42 : decode cX3_split 42 = .ok (.lcmp, 1) := by decide +kernel
theorem dX3_split_43 : decode cX3_split 43 = .ok (.ifCond .gt 4, 3) := by decide +kernel
theorem dX3_split_46 : decode cX3_split 46 = .ok (.return_, 1) := by decide +kernel
theorem dX3_split_47 : decode cX3_split 47 = .ok (.iload_n 1, 1) := by decide +kernel
theorem dX3_split_48 : decode cX3_split 48 = .ok (.istore 7, 2) := by decide +kernel
theorem dX3_split_50 : decode cX3_split 50 = .ok (.iconst 0, 1) := by decide +kernel
theorem dX3_split_51 : decode cX3_split 51 = .ok (.istore 8, 2) := by decide +kernel
theorem dX3_split_53 : decode cX3_split 53 = .ok (.iload 8, 2) := by decide +kernel
theorem dX3_split_55 : decode cX3_split 55 = .ok (.iload 4, 2) := by decide +kernel
theorem dX3_split_57 : decode cX3_split 57 = .ok (.if_icmp .ge 58, 3) := by decide +kernel
theorem dX3_split_60 : decode cX3_split 60 = .ok (.iload_n 1, 1) := by decide +kernel
theorem dX3_split_61 : decode cX3_split 61 = .ok (.i2l, 1) := by decide +kernel
theorem dX3_split_62 : decode cX3_split 62 = .ok (.aload_n 2, 1) := by decide +kernel
theorem dX3_split_63 : decode cX3_split 63 = .ok (.iload_n 3, 1) := by decide +kernel
theorem dX3_split_64 : decode cX3_split 64 = .ok (.iload 8, 2) := by decide +kernel
theorem dX3_split_66 : decode cX3_split 66 = .ok (.iadd, 1) := by decide +kernel
theorem dX3_split_67 : decode cX3_split 67 = .ok (.iaload, 1) := by decide +kernel
theorem dX3_split_68 : decode cX3_split 68 = .ok (.i2l, 1) := by decide +kernel
theorem dX3_split_69 : decode cX3_split 69 = .ok (.lmul, 1) := by decide +kernel
theorem dX3_split_70 : decode cX3_split 70 = .ok (.lstore 9, 2) := by decide +kernel
theorem dX3_split_72 : decode cX3_split 72 = .ok (.aload_n 0, 1) := by decide +kernel
theorem dX3_split_73 : decode cX3_split 73 = .ok (.getfield 9, 3) := by decide +kernel
theorem dX3_split_76 : decode cX3_split 76 = .ok (.iload 8, 2) := by decide +kernel
theorem dX3_split_78 : decode cX3_split 78 = .ok (.lload 9, 2) := by decide +kernel
theorem dX3_split_80 : decode cX3_split 80 = .ok (.lload 5, 2) := by decide +kernel
theorem dX3_split_82 : decode cX3_split 82 = .ok (.ldiv, 1) := by decide +kernel
theorem dX3_split_83 : decode cX3_split 83 = .ok (.l2i, 1) := by decide +kernel
theorem dX3_split_84 : decode cX3_split 84 = .ok (.iastore, 1) := by decide +kernel
theorem dX3_split_85 : decode cX3_split 85 = .ok (.aload_n 0, 1) := by decide +kernel
theorem dX3_split_86 : decode cX3_split 86 = .ok (.getfield 15, 3) := by decide +kernel
theorem dX3_split_89 : decode cX3_split 89 = .ok (.iload 8, 2) := by decide +kernel
theorem dX3_split_91 : decode cX3_split 91 = .ok (.lload 9, 2) := by decide +kernel
theorem dX3_split_93 : decode cX3_split 93 = .ok (.lload 5, 2) := by decide +kernel
theorem dX3_split_95 : decode cX3_split 95 = .ok (.lrem, 1) := by decide +kernel
theorem dX3_split_96 : decode cX3_split 96 = .ok (.lastore, 1) := by decide +kernel
theorem dX3_split_97 : decode cX3_split 97 = .ok (.iload 7, 2) := by decide +kernel
theorem dX3_split_99 : decode cX3_split 99 = .ok (.aload_n 0, 1) := by decide +kernel
theorem dX3_split_100 : decode cX3_split 100 = .ok (.getfield 9, 3) := by decide +kernel
theorem dX3_split_103 : decode cX3_split 103 = .ok (.iload 8, 2) := by decide +kernel
theorem dX3_split_105 : decode cX3_split 105 = .ok (.iaload, 1) := by decide +kernel
theorem dX3_split_106 : decode cX3_split 106 = .ok (.isub, 1) := by decide +kernel
theorem dX3_split_107 : decode cX3_split 107 = .ok (.istore 7, 2) := by decide +kernel
theorem dX3_split_109 : decode cX3_split 109 = .ok (.iinc 8 1, 3) := by decide +kernel
theorem dX3_split_112 : decode cX3_split 112 = .ok (.goto (-59), 3) := by decide +kernel
theorem dX3_split_115 : decode cX3_split 115 = .ok (.iconst 0, 1) := by decide +kernel
theorem dX3_split_116 : decode cX3_split 116 = .ok (.istore 8, 2) := by decide +kernel
theorem dX3_split_118 : decode cX3_split 118 = .ok (.iload 8, 2) := by decide +kernel
theorem dX3_split_120 : decode cX3_split 120 = .ok (.iload 7, 2) := by decide +kernel
theorem dX3_split_122 : decode cX3_split 122 = .ok (.if_icmp .ge 22, 3) := by decide +kernel
theorem dX3_split_125 : decode cX3_split 125 = .ok (.iload 8, 2) := by decide +kernel
theorem dX3_split_127 : decode cX3_split 127 = .ok (.iload 4, 2) := by decide +kernel
theorem dX3_split_129 : decode cX3_split 129 = .ok (.if_icmp .ge 15, 3) := by decide +kernel
theorem dX3_split_132 : decode cX3_split 132 = .ok (.aload_n 0, 1) := by decide +kernel
theorem dX3_split_133 : decode cX3_split 133 = .ok (.iload 4, 2) := by decide +kernel
theorem dX3_split_135 : decode cX3_split 135 = .ok (.invokevirtual 19, 3) := by decide +kernel
theorem dX3_split_138 : decode cX3_split 138 = .ok (.iinc 8 1, 3) := by decide +kernel
theorem dX3_split_141 : decode cX3_split 141 = .ok (.goto (-23), 3) := by decide +kernel
theorem dX3_split_144 : decode cX3_split 144 = .ok (.return_, 1) := by decide +kernel
theorem dX3_giveOneByRest_0 : decode cX3_giveOneByRest 0 = .ok (.iconst 0, 1) := by decide +kernel
theorem dX3_giveOneByRest_1 : decode cX3_giveOneByRest 1 = .ok (.istore_n 2, 1) := by decide +kernel
theorem dX3_giveOneByRest_2 : decode cX3_giveOneByRest 2 = .ok (.iconst 1, 1) := by decide +kernel
theorem dX3_giveOneByRest_3 : decode cX3_giveOneByRest 3 = .ok (.istore_n 3, 1) := by decide +kernel
theorem dX3_giveOneByRest_4 : decode cX3_giveOneByRest 4 = .ok (.iload_n 3, 1) := by decide +kernel
theorem dX3_giveOneByRest_5 : decode cX3_giveOneByRest 5 = .ok (.iload_n 1, 1) := by decide +kernel
theorem dX3_giveOneByRest_6 : decode cX3_giveOneByRest 6 = .ok (.if_icmp .ge 27, 3) := by decide +kernel
theorem dX3_giveOneByRest_9 : decode cX3_giveOneByRest 9 = .ok (.aload_n 0, 1) := by decide +kernel
theorem dX3_giveOneByRest_10 : decode cX3_giveOneByRest 10 = .ok (.getfield 15, 3) := by decide +kernel
theorem dX3_giveOneByRest_13 : decode cX3_giveOneByRest 13 = .ok (.iload_n 3, 1) := by decide +kernel
theorem dX3_giveOneByRest_14 : decode cX3_giveOneByRest 14 = .ok (.laload, 1) := by decide +kernel
theorem dX3_giveOneByRest_15 : decode cX3_giveOneByRest 15 = .ok (.aload_n 0, 1) := by decide +kernel
theorem dX3_giveOneByRest_16 : decode cX3_giveOneByRest 16 = .ok (.getfield 15, 3) := by decide +kernel
theorem dX3_giveOneByRest_19 : decode cX3_giveOneByRest 19 = .ok (.iload_n 2, 1) := by decide +kernel
theorem dX3_giveOneByRest_20 : decode cX3_giveOneByRest 20 = .ok (.laload, 1) := by decide +kernel
theorem dX3_giveOneByRest_21 : decode cX3_giveOneByRest 21 = .ok (.lcmp, 1) := by decide +kernel
theorem dX3_giveOneByRest_22 : decode cX3_giveOneByRest 22 = .ok (.ifCond .le 5, 3) := by decide +kernel
theorem dX3_giveOneByRest_25 : decode cX3_giveOneByRest 25 = .ok (.iload_n 3, 1) := by decide +kernel
theorem dX3_giveOneByRest_26 : decode cX3_giveOneByRest 26 = .ok (.istore_n 2, 1) := by decide +kernel
theorem dX3_giveOneByRest_27 : decode cX3_giveOneByRest 27 = .ok (.iinc 3 1, 3) := by decide +kernel
theorem dX3_giveOneByRest_30 : decode cX3_giveOneByRest 30 = .ok (.goto (-26), 3) := by decide +kernel
theorem dX3_giveOneByRest_33 : decode cX3_giveOneByRest 33 = .ok (.aload_n 0, 1) := by decide +kernel
theorem dX3_giveOneByRest_34 : decode cX3_giveOneByRest 34 = .ok (.getfield 9, 3) := by decide +kernel
theorem dX3_giveOneByRest_37 : decode cX3_giveOneByRest 37 = .ok (.iload_n 2, 1) := by decide +kernel
theorem dX3_giveOneByRest_38 : decode cX3_giveOneByRest 38 = .ok (.dup2, 1) := by decide +kernel
theorem dX3_giveOneByRest_39 : decode cX3_giveOneByRest 39 = .ok (.iaload, 1) := by decide +kernel
theorem dX3_giveOneByRest_40 : decode cX3_giveOneByRest 40 = .ok (.iconst 1, 1) := by decide +kernel
theorem dX3_giveOneByRest_41 : decode cX3_giveOneByRest 41 = .ok (.iadd, 1) := by decide +kernel
theorem dX3_giveOneByRest_42 : decode cX3_giveOneByRest 42 = .ok (.iastore, 1) := by decide +kernel
theorem dX3_giveOneByRest_43 : decode cX3_giveOneByRest 43 = .ok (.aload_n 0, 1) := by decide +kernel
theorem dX3_giveOneByRest_44 : decode cX3_giveOneByRest 44 = .ok (.getfield 15, 3) := by decide +kernel
theorem dX3_giveOneByRest_47 : decode cX3_giveOneByRest 47 = .ok (.iload_n 2, 1) := by decide +kernel
theorem dX3_giveOneByRest_48 : decode cX3_giveOneByRest 48 = .ok (.ldc2_w 23, 3) := by decide +kernel
theorem dX3_giveOneByRest_51 : decode cX3_giveOneByRest 51 = .ok (.lastore, 1) := by decide +kernel
theorem dX3_giveOneByRest_52 : decode cX3_giveOneByRest 52 = .ok (.return_, 1) := by decide +kernel
theorem dX4_init_0 : decode cX4_init 0 = .ok (.aload_n 0, 1) := by decide +kernel
theorem dX4_init_1 : decode cX4_init 1 = .ok (.invokespecial 3, 3) := by decide +kernel
theorem dX4_init_4 : decode cX4_init 4 = .ok (.aload_n 0, 1) := by decide +kernel
theorem dX4_init_5 : decode cX4_init 5 = .ok (.bipush 101, 2) := by decide +kernel
theorem dX4_init_7 : decode cX4_init 7 = .ok (.newarray .int, 2) := by decide +kernel
theorem dX4_init_9 : decode cX4_init 9 = .ok (.putfield 9, 3) := by decide +kernel
theorem dX4_init_12 : decode cX4_init 12 = .ok (.aload_n 0, 1) := by decide +kernel
theorem dX4_init_13 : decode cX4_init 13 = .ok (.bipush 101, 2) := by decide +kernel
theorem dX4_init_15 : decode cX4_init 15 = .ok (.newarray .int, 2) := by decide +kernel
theorem dX4_init_17 : decode cX4_init 17 = .ok (.putfield 15, 3) := by decide +kernel
theorem dX4_init_20 : decode cX4_init 20 = .ok (.return_, 1) := by decide +kernel
theorem dX4_plan_0 : decode cX4_plan 0 = .ok (.aload_n 0, 1) := by decide +kernel
theorem dX4_plan_1 : decode cX4_plan 1 = .ok (.getfield 9, 3) := by decide +kernel
theorem dX4_plan_4 : decode cX4_plan 4 = .ok (.iload_n 3, 1) := by decide +kernel
theorem dX4_plan_5 : decode cX4_plan 5 = .ok (.iconst 0, 1) := by decide +kernel
theorem dX4_plan_6 : decode cX4_plan 6 = .ok (.iastore, 1) := by decide +kernel
theorem dX4_plan_7 : decode cX4_plan 7 = .ok (.aload_n 0, 1) := by decide +kernel
theorem dX4_plan_8 : decode cX4_plan 8 = .ok (.getfield 15, 3) := by decide +kernel
theorem dX4_plan_11 : decode cX4_plan 11 = .ok (.iload_n 3, 1) := by decide +kernel
theorem dX4_plan_12 : decode cX4_plan 12 = .ok (.iload_n 3, 1) := by decide +kernel
theorem dX4_plan_13 : decode cX4_plan 13 = .ok (.iastore, 1) := by decide +kernel
theorem dX4_plan_14 : decode cX4_plan 14 = .ok (.iload_n 3, 1) := by decide +kernel
theorem dX4_plan_15 : decode cX4_plan 15 = .ok (.iconst 1, 1) := by decide +kernel
theorem dX4_plan_16 : decode cX4_plan 16 = .ok (.isub, 1) := by decide +kernel
theorem dX4_plan_17 : decode cX4_plan 17 = .ok (.istore 4, 2) := by decide +kernel
theorem dX4_plan_19 : decode cX4_plan 19 = .ok (.iload 4, 2) := by decide +kernel
theorem dX4_plan_21 : decode cX4_plan 21 = .ok (.iload_n 2, 1) := by decide +kernel
theorem dX4_plan_22 : decode cX4_plan 22 = .ok (.if_icmp .lt 17, 3) := by decide +kernel
theorem dX4_plan_25 : decode cX4_plan 25 = .ok (.aload_n 0, 1) := by decide +kernel
theorem dX4_plan_26 : decode cX4_plan 26 = .ok (.aload_n 1, 1) := by decide +kernel
theorem dX4_plan_27 : decode cX4_plan 27 = .ok (.iload 4, 2) := by decide +kernel
theorem dX4_plan_29 : decode cX4_plan 29 = .ok (.iload_n 3, 1) := by decide +kernel
theorem dX4_plan_30 : decode cX4_plan 30 = .ok (.invokevirtual 18, 3) := by decide +kernel
theorem dX4_plan_33 : decode cX4_plan 33 = .ok (.iinc 4 (-1), 3) := by decide +kernel
theorem dX4_plan_36 : decode cX4_plan 36 = .ok (.goto (-17), 3) := by decide +kernel
theorem dX4_plan_39 : decode cX4_plan 39 = .ok (.return_, 1) := by decide +kernel
theorem dX4_planFrom_0 : decode cX4_planFrom 0 = .ok (.aload_n 0, 1) := by decide +kernel
theorem dX4_planFrom_1 : decode cX4_planFrom 1 = .ok (.getfield 9, 3) := by decide +kernel
theorem dX4_planFrom_4 : decode cX4_planFrom 4 = .ok (.iload_n 2, 1) := by decide +kernel
theorem dX4_planFrom_5 : decode cX4_planFrom 5 = .ok (.bipush (-2), 2) := by decide +kernel
theorem dX4_planFrom_7 : decode cX4_planFrom 7 = .ok (.iastore, 1) := by decide +kernel
theorem dX4_planFrom_8 : decode cX4_planFrom 8 = .ok (.aload_n 0, 1) := by decide +kernel
theorem dX4_planFrom_9 : decode cX4_planFrom 9 = .ok (.getfield 15, 3) := by decide +kernel
theorem dX4_planFrom_12 : decode cX4_planFrom 12 = .ok (.iload_n 2, 1) := by decide +kernel
theorem dX4_planFrom_13 : decode cX4_planFrom 13 = .ok (.iload_n 2, 1) := by decide +kernel
theorem dX4_planFrom_14 : decode cX4_planFrom 14 = .ok (.iastore, 1) := by decide +kernel
theorem dX4_planFrom_15 : decode cX4_planFrom 15 = .ok (.iload_n 3, 1) := by decide +kernel
theorem dX4_planFrom_16 : decode cX4_planFrom 16 = .ok (.istore 4, 2) := by decide +kernel
theorem dX4_planFrom_18 : decode cX4_planFrom 18 = .ok (.iload 4, 2) := by decide +kernel
theorem dX4_planFrom_20 : decode cX4_planFrom 20 = .ok (.iload_n 2, 1) := by decide +kernel
theorem dX4_planFrom_21 : decode cX4_planFrom 21 = .ok (.if_icmp .le 69, 3) := by decide +kernel
theorem dX4_planFrom_24 : decode cX4_planFrom 24 = .ok (.aload_n 0, 1) := by decide +kernel
theorem dX4_planFrom_25 : decode cX4_planFrom 25 = .ok (.getfield 9, 3) := by decide +kernel
theorem dX4_planFrom_28 : decode cX4_planFrom 28 = .ok (.iload_n 2, 1) := by decide +kernel
theorem dX4_planFrom_29 : decode cX4_planFrom 29 = .ok (.iaload, 1) := by decide +kernel
theorem dX4_planFrom_30 : decode cX4_planFrom 30 = .ok (.iconst 1, 1) := by decide +kernel
theorem dX4_planFrom_31 : decode cX4_planFrom 31 = .ok (.if_icmp .eq 59, 3) := by decide +kernel
theorem dX4_planFrom_34 : decode cX4_planFrom 34 = .ok (.aload_n 0, 1) := by decide +kernel
theorem dX4_planFrom_35 : decode cX4_planFrom 35 = .ok (.iload_n 2, 1) := by decide +kernel
theorem dX4_planFrom_36 : decode cX4_planFrom 36 = .ok (.iload 4, 2) := by decide +kernel
theorem dX4_planFrom_38 : decode cX4_planFrom 38 = .ok (.invokevirtual 22, 3) := by decide +kernel
theorem dX4_planFrom_41 : decode cX4_planFrom 41 = .ok (.ifCond .eq 43, 3) := by decide +kernel
theorem dX4_planFrom_44 : decode cX4_planFrom 44 = .ok (.aload_n 1, 1) := by decide +kernel
theorem dX4_planFrom_45 : decode cX4_planFrom 45 = .ok (.iload_n 2, 1) := by decide +kernel
theorem dX4_planFrom_46 : decode cX4_planFrom 46 = .ok (.iload 4, 2) := by decide +kernel
theorem dX4_planFrom_48 : decode cX4_planFrom 48 = .ok (.aload_n 1, 1) := by decide +kernel
theorem dX4_planFrom_49 : decode cX4_planFrom 49 = .ok (.getfield 26, 3) := by decide +kernel
theorem dX4_planFrom_52 : decode cX4_planFrom 52 = .ok (.iload 4, 2) := by decide +kernel
theorem dX4_planFrom_54 : decode cX4_planFrom 54 = .ok (.iaload, 1) := by decide +kernel
theorem dX4_planFrom_55 : decode cX4_planFrom 55 = .ok (.invokevirtual 31, 3) := by decide +kernel
theorem dX4_planFrom_58 : decode cX4_planFrom 58 = .ok (.ifCond .eq 26, 3) := by decide +kernel
theorem dX4_planFrom_61 : decode cX4_planFrom 61 = .ok (.aload_n 0, 1) := by decide +kernel
theorem dX4_planFrom_62 : decode cX4_planFrom 62 = .ok (.getfield 9, 3) := by decide +kernel
theorem dX4_planFrom_65 : decode cX4_planFrom 65 = .ok (.iload_n 2, 1) := by decide +kernel
theorem dX4_planFrom_66 : decode cX4_planFrom 66 = .ok (.aload_n 0, 1) := by decide +kernel
theorem dX4_planFrom_67 : decode cX4_planFrom 67 = .ok (.getfield 9, 3) := by decide +kernel
theorem dX4_planFrom_70 : decode cX4_planFrom 70 = .ok (.iload 4, 2) := by decide +kernel
theorem dX4_planFrom_72 : decode cX4_planFrom 72 = .ok (.iaload, 1) := by decide +kernel
theorem dX4_planFrom_73 : decode cX4_planFrom 73 = .ok (.iconst 1, 1) := by decide +kernel
theorem dX4_planFrom_74 : decode cX4_planFrom 74 = .ok (.iadd, 1) := by decide +kernel
theorem dX4_planFrom_75 : decode cX4_planFrom 75 = .ok (.iastore, 1) := by decide +kernel
theorem dX4_planFrom_76 : decode cX4_planFrom 76 = .ok (.aload_n 0, 1) := by decide +kernel
theorem dX4_planFrom_77 : decode cX4_planFrom 77 = .ok (.getfield 15, 3) := by decide +kernel
theorem dX4_planFrom_80 : decode cX4_planFrom 80 = .ok (.iload_n 2, 1) := by decide +kernel
theorem dX4_planFrom_81 : decode cX4_planFrom 81 = .ok (.iload 4, 2) := by decide +kernel
theorem dX4_planFrom_83 : decode cX4_planFrom 83 = .ok (.iastore, 1) := by decide +kernel
theorem dX4_planFrom_84 : decode cX4_planFrom 84 = .ok (.iinc 4 (-1), 3) := by decide +kernel
theorem dX4_planFrom_87 : decode cX4_planFrom 87 = .ok (.goto (-69), 3) := by decide +kernel
theorem dX4_planFrom_90 : decode cX4_planFrom 90 = .ok (.return_, 1) := by decide +kernel
theorem dX4_isShorter_0 : decode cX4_isShorter 0 = .ok (.aload_n 0, 1) := by decide +kernel
theorem dX4_isShorter_1 : decode cX4_isShorter 1 = .ok (.getfield 9, 3) := by decide +kernel
theorem dX4_isShorter_4 : decode cX4_isShorter 4 = .ok (.iload_n 2, 1) := by decide +kernel
theorem dX4_isShorter_5 : decode cX4_isShorter 5 = .ok (.iaload, 1) := by decide +kernel
theorem dX4_isShorter_6 : decode cX4_isShorter 6 = .ok (.bipush (-2), 2) := by decide +kernel
theorem dX4_isShorter_8 : decode cX4_isShorter 8 = .ok (.if_icmp .eq 35, 3) := by decide +kernel
theorem dX4_isShorter_11 : decode cX4_isShorter 11 = .ok (.aload_n 0, 1) := by decide +kernel
theorem dX4_isShorter_12 : decode cX4_isShorter 12 = .ok (.getfield 9, 3) := by decide +kernel
theorem dX4_isShorter_15 : decode cX4_isShorter 15 = .ok (.iload_n 1, 1) := by decide +kernel
theorem dX4_isShorter_16 : decode cX4_isShorter 16 = .ok (.iaload, 1) := by decide +kernel
theorem dX4_isShorter_17 : decode cX4_isShorter 17 = .ok (.bipush (-2), 2) := by decide +kernel
theorem dX4_isShorter_19 : decode cX4_isShorter 19 = .ok (.if_icmp .eq 20, 3) := by decide +kernel
theorem dX4_isShorter_22 : decode cX4_isShorter 22 = .ok (.aload_n 0, 1) := by decide +kernel
theorem dX4_isShorter_23 : decode cX4_isShorter 23 = .ok (.getfield 9, 3) := by decide +kernel
theorem dX4_isShorter_26 : decode cX4_isShorter 26 = .ok (.iload_n 2, 1) := by decide +kernel
theorem dX4_isShorter_27 : decode cX4_isShorter 27 = .ok (.iaload, 1) := by decide +kernel
theorem dX4_isShorter_28 : decode cX4_isShorter 28 = .ok (.iconst 1, 1) := by decide +kernel
theorem dX4_isShorter_29 : decode cX4_isShorter 29 = .ok (.iadd, 1) := by decide +kernel
theorem dX4_isShorter_30 : decode cX4_isShorter 30 = .ok (.aload_n 0, 1) := by decide +kernel
theorem dX4_isShorter_31 : decode cX4_isShorter 31 = .ok (.getfield 9, 3) := by decide +kernel
theorem dX4_isShorter_34 : decode cX4_isShorter 34 = .ok (.iload_n 1, 1) := by decide +kernel
theorem dX4_isShorter_35 : decode cX4_isShorter 35 = .ok (.iaload, 1) := by decide +kernel
theorem dX4_isShorter_36 : decode cX4_isShorter 36 = .ok (.if_icmp .ge 7, 3) := by decide +kernel
theorem dX4_isShorter_39 : decode cX4_isShorter 39 = .ok (.iconst 1, 1) := by decide +kernel
theorem dX4_isShorter_40 : decode cX4_isShorter 40 = .ok (.goto 4, 3) := by decide +kernel
theorem dX4_isShorter_43 : decode cX4_isShorter 43 = .ok (.iconst 0, 1) := by decide +kernel
theorem dX4_isShorter_44 : decode cX4_isShorter 44 = .ok (.ireturn, 1) := by decide +kernel
theorem dX4_heightAt_0 : decode cX4_heightAt 0 = .ok (.iload_n 1, 1) := by decide +kernel
theorem dX4_heightAt_1 : decode cX4_heightAt 1 = .ok (.istore 4, 2) := by decide +kernel
theorem dX4_heightAt_3 : decode cX4_heightAt 3 = .ok (.iconst 0, 1) := by decide +kernel
theorem dX4_heightAt_4 : decode cX4_heightAt 4 = .ok (.istore 5, 2) := by decide +kernel
theorem dX4_heightAt_6 : decode cX4_heightAt 6 = .ok (.iload 5, 2) := by decide +kernel
theorem dX4_heightAt_8 : decode cX4_heightAt 8 = .ok (.iload_n 3, 1) := by decide +kernel
theorem dX4_heightAt_9 : decode cX4_heightAt 9 = .ok (.if_icmp .ge 24, 3) := by decide +kernel
theorem dX4_heightAt_12 : decode cX4_heightAt 12 = .ok (.iload 4, 2) := by decide +kernel
theorem dX4_heightAt_14 : decode cX4_heightAt 14 = .ok (.iload_n 2, 1) := by decide +kernel
theorem dX4_heightAt_15 : decode cX4_heightAt 15 = .ok (.if_icmp .ge 18, 3) := by decide +kernel
theorem dX4_heightAt_18 : decode cX4_heightAt 18 = .ok (.aload_n 0, 1) := by decide +kernel
theorem dX4_heightAt_19 : decode cX4_heightAt 19 = .ok (.getfield 15, 3) := by decide +kernel
theorem dX4_heightAt_22 : decode cX4_heightAt 22 = .ok (.iload 4, 2) := by decide +kernel
theorem dX4_heightAt_24 : decode cX4_heightAt 24 = .ok (.iaload, 1) := by decide +kernel
theorem dX4_heightAt_25 : decode cX4_heightAt 25 = .ok (.istore 4, 2) := by decide +kernel
theorem dX4_heightAt_27 : decode cX4_heightAt 27 = .ok (.iinc 5 1, 3) := by decide +kernel
theorem dX4_heightAt_30 : decode cX4_heightAt 30 = .ok (.goto (-24), 3) := by decide +kernel
theorem dX4_heightAt_33 : decode cX4_heightAt 33 = .ok (.iload 4, 2) := by decide +kernel
theorem dX4_heightAt_35 : decode cX4_heightAt 35 = .ok (.ireturn, 1) := by decide +kernel
