theorem dX6_init_0 : decode cX6_init 0 = .ok (.aload_n 0, 1) := by decide +kernel
theorem dX6_init_1 : decode cX6_init 1 = .ok (.invokespecial 1, 3) := by decide +kernel
theorem dX6_init_4 : decode cX6_init 4 = .ok (.aload_n 0, 1) := by decide +kernel
theorem dX6_init_5 : decode cX6_init 5 = .ok (.new 7, 3) := by decide +kernel
theorem dX6_init_8 : decode cX6_init 8 = .ok (.dup, 1) := by decide +kernel
theorem dX6_init_9 : decode cX6_init 9 = .ok (.invokespecial 9, 3) := by decide +kernel
theorem dX6_init_12 : decode cX6_init 12 = .ok (.putfield 10, 3) := by decide +kernel
theorem dX6_init_15 : decode cX6_init 15 = .ok (.aload_n 0, 1) := by decide +kernel
theorem dX6_init_16 : decode cX6_init 16 = .ok (.new 16, 3) := by decide +kernel
theorem dX6_init_19 : decode cX6_init 19 = .ok (.dup, 1) := by decide +kernel
theorem dX6_init_20 : decode cX6_init 20 = .ok (.invokespecial 18, 3) := by decide +kernel
theorem dX6_init_23 : decode cX6_init 23 = .ok (.putfield 19, 3) := by decide +kernel
theorem dX6_init_26 : decode cX6_init 26 = .ok (.aload_n 0, 1) := by decide +kernel
theorem dX6_init_27 : decode cX6_init 27 = .ok (.bipush 8, 2) := by decide +kernel
theorem dX6_init_29 : decode cX6_init 29 = .ok (.newarray .int, 2) := by decide +kernel
theorem dX6_init_31 : decode cX6_init 31 = .ok (.putfield 23, 3) := by decide +kernel
theorem dX6_init_34 : decode cX6_init 34 = .ok (.aload_n 0, 1) := by decide +kernel
theorem dX6_init_35 : decode cX6_init 35 = .ok (.new 27, 3) := by decide +kernel
theorem dX6_init_38 : decode cX6_init 38 = .ok (.dup, 1) := by decide +kernel
theorem dX6_init_39 : decode cX6_init 39 = .ok (.invokespecial 29, 3) := by decide +kernel
theorem dX6_init_42 : decode cX6_init 42 = .ok (.putfield 30, 3) := by decide +kernel
theorem dX6_init_45 : decode cX6_init 45 = .ok (.aload_n 0, 1) := by decide +kernel
theorem dX6_init_46 : decode cX6_init 46 = .ok (.new 34, 3) := by decide +kernel
theorem dX6_init_49 : decode cX6_init 49 = .ok (.dup, 1) := by decide +kernel
theorem dX6_init_50 : decode cX6_init 50 = .ok (.invokespecial 36, 3) := by decide +kernel
theorem dX6_init_53 : decode cX6_init 53 = .ok (.putfield 37, 3) := by decide +kernel
theorem dX6_init_56 : decode cX6_init 56 = .ok (.aload_n 0, 1) := by decide +kernel
theorem dX6_init_57 : decode cX6_init 57 = .ok (.new 41, 3) := by decide +kernel
theorem dX6_init_60 : decode cX6_init 60 = .ok (.dup, 1) := by decide +kernel
theorem dX6_init_61 : decode cX6_init 61 = .ok (.invokespecial 43, 3) := by decide +kernel
theorem dX6_init_64 : decode cX6_init 64 = .ok (.putfield 44, 3) := by decide +kernel
theorem dX6_init_67 : decode cX6_init 67 = .ok (.aload_n 0, 1) := by decide +kernel
theorem dX6_init_68 : decode cX6_init 68 = .ok (.new 48, 3) := by decide +kernel
theorem dX6_init_71 : decode cX6_init 71 = .ok (.dup, 1) := by decide +kernel
theorem dX6_init_72 : decode cX6_init 72 = .ok (.invokespecial 50, 3) := by decide +kernel
theorem dX6_init_75 : decode cX6_init 75 = .ok (.putfield 51, 3) := by decide +kernel
theorem dX6_init_78 : decode cX6_init 78 = .ok (.aload_n 0, 1) := by decide +kernel
theorem dX6_init_79 : decode cX6_init 79 = .ok (.sipush 500, 3) := by decide +kernel
theorem dX6_init_82 : decode cX6_init 82 = .ok (.putfield 55, 3) := by decide +kernel
theorem dX6_init_85 : decode cX6_init 85 = .ok (.return_, 1) := by decide +kernel
set_option maxRecDepth 20000 in
theorem ggX6_net_X6_within : GoodIn wsX6_net wsX6_within := goodIn_r _ [6] (by decide +kernel) (by decide +kernel)
set_option maxRecDepth 20000 in
theorem gX6_net_X6_within : GoodIn wsX6_net (va_wsS RX6 59 yX6_within wsX6_within) := goodIn_app (goodIn_of _ (by decide +kernel)) ggX6_net_X6_within
set_option maxRecDepth 20000 in
theorem ggX6_net_X3_renew : GoodIn wsX6_net wsX3_renew := goodIn_r _ [11, 12, 13, 14, 15, 16, 17, 18, 19, 20, 30, 31, 32, 33, 34, 35] (by decide +kernel) (by decide +kernel)
set_option maxRecDepth 20000 in
theorem gX6_net_X3_renew : GoodIn wsX6_net (wsV RX6 63 RX3 yX3_renew wsX3_renew) := goodIn_app (goodIn_of _ (by decide +kernel)) ggX6_net_X3_renew
set_option maxRecDepth 20000 in
theorem ggX6_net_J7_fill_53178 : GoodIn wsX6_net wsJ7_fill_53178 := goodIn_r _ [20] (by decide +kernel) (by decide +kernel)
set_option maxRecDepth 20000 in
theorem gX6_net_J7_fill_53178 : GoodIn wsX6_net (va_wsS RX6 67 yJ7_fill_53178 wsJ7_fill_53178) := goodIn_app (goodIn_of _ (by decide +kernel)) ggX6_net_J7_fill_53178
theorem dX6_net_0 : decode cX6_net 0 = .ok (.iload_n 1, 1) := by decide +kernel
theorem dX6_net_1 : decode cX6_net 1 = .ok (.iconst 1, 1) := by decide +kernel
theorem dX6_net_2 : decode cX6_net 2 = .ok (.bipush 10, 2) := by decide +kernel
theorem dX6_net_4 : decode cX6_net 4 = .ok (.invokestatic 59, 3) := by decide +kernel
theorem dX6_net_7 : decode cX6_net 7 = .ok (.ifCond .ne 7, 3) := by decide +kernel
theorem dX6_net_10 : decode cX6_net 10 = .ok (.sipush (-1002), 3) := by decide +kernel
theorem dX6_net_13 : decode cX6_net 13 = .ok (.ireturn, 1) := by decide +kernel
theorem dX6_net_14 : decode cX6_net 14 = .ok (.aload_n 0, 1) := by decide +kernel
theorem dX6_net_15 : decode cX6_net 15 = .ok (.getfield 10, 3) := by decide +kernel
theorem dX6_net_18 : decode cX6_net 18 = .ok (.iload_n 1, 1) := by decide +kernel
theorem dX6_net_19 : decode cX6_net 19 = .ok (.invokevirtual 63, 3) := by decide +kernel
theorem dX6_net_22 : decode cX6_net 22 = .ok (.aload_n 0, 1) := by decide +kernel
theorem dX6_net_23 : decode cX6_net 23 = .ok (.getfield 23, 3) := by decide +kernel
theorem dX6_net_26 : decode cX6_net 26 = .ok (.iconst 0, 1) := by decide +kernel
theorem dX6_net_27 : decode cX6_net 27 = .ok (.invokestatic 67, 3) := by decide +kernel
theorem dX6_net_30 : decode cX6_net 30 = .ok (.iconst 1, 1) := by decide +kernel
theorem dX6_net_31 : decode cX6_net 31 = .ok (.ireturn, 1) := by decide +kernel
set_option maxRecDepth 20000 in
theorem ggX6_line_X3_has : GoodIn wsX6_line wsX3_has := goodIn_r _ [7, 8, 9, 10, 11, 38, 39, 40, 41, 42, 43] (by decide +kernel) (by decide +kernel)
set_option maxRecDepth 20000 in
theorem gX6_line_X3_has : GoodIn wsX6_line (wsV RX6 73 RX3 yX3_has wsX3_has) := goodIn_app (goodIn_of _ (by decide +kernel)) ggX6_line_X3_has
set_option maxRecDepth 20000 in
theorem ggX6_line_X3_joined : GoodIn wsX6_line wsX3_joined := goodIn_r _ [15, 16, 17, 18, 6, 19, 20, 21, 10, 22, 38, 39, 40, 41, 42, 43] (by decide +kernel) (by decide +kernel)
set_option maxRecDepth 20000 in
theorem gX6_line_X3_joined : GoodIn wsX6_line (wsV RX6 77 RX3 yX3_joined wsX3_joined) := goodIn_app (goodIn_of _ (by decide +kernel)) ggX6_line_X3_joined
set_option maxRecDepth 20000 in
theorem ggX6_line_X3_join : GoodIn wsX6_line wsX3_join := goodIn_r _ [26, 27, 20, 28, 29, 4, 5, 6, 7, 8, 9, 10, 11, 38, 39, 40, 41, 42, 43] (by decide +kernel) (by decide +kernel)
set_option maxRecDepth 20000 in
theorem gX6_line_X3_join : GoodIn wsX6_line (wsV RX6 84 RX3 yX3_join wsX3_join) := goodIn_app (goodIn_of _ (by decide +kernel)) ggX6_line_X3_join
theorem dX6_line_0 : decode cX6_line 0 = .ok (.aload_n 0, 1) := by decide +kernel
theorem dX6_line_1 : decode cX6_line 1 = .ok (.getfield 10, 3) := by decide +kernel
theorem dX6_line_4 : decode cX6_line 4 = .ok (.iload_n 1, 1) := by decide +kernel
theorem dX6_line_5 : decode cX6_line 5 = .ok (.invokevirtual 73, 3) := by decide +kernel
theorem dX6_line_8 : decode cX6_line 8 = .ok (.ifCond .eq 14, 3) := by decide +kernel
theorem dX6_line_11 : decode cX6_line 11 = .ok (.aload_n 0, 1) := by decide +kernel
theorem dX6_line_12 : decode cX6_line 12 = .ok (.getfield 10, 3) := by decide +kernel
theorem dX6_line_15 : decode cX6_line 15 = .ok (.iload_n 2, 1) := by decide +kernel
theorem dX6_line_16 : decode cX6_line 16 = .ok (.invokevirtual 73, 3) := by decide +kernel
theorem dX6_line_19 : decode cX6_line 19 = .ok (.ifCond .ne 7, 3) := by decide +kernel
theorem dX6_line_22 : decode cX6_line 22 = .ok (.sipush (-1001), 3) := by decide +kernel
theorem dX6_line_25 : decode cX6_line 25 = .ok (.ireturn, 1) := by decide +kernel
theorem dX6_line_26 : decode cX6_line 26 = .ok (.iload_n 1, 1) := by decide +kernel
theorem dX6_line_27 : decode cX6_line 27 = .ok (.iload_n 2, 1) := by decide +kernel
theorem dX6_line_28 : decode cX6_line 28 = .ok (.if_icmp .ne 7, 3) := by decide +kernel
theorem dX6_line_31 : decode cX6_line 31 = .ok (.sipush (-1002), 3) := by decide +kernel
theorem dX6_line_34 : decode cX6_line 34 = .ok (.ireturn, 1) := by decide +kernel
theorem dX6_line_35 : decode cX6_line 35 = .ok (.aload_n 0, 1) := by decide +kernel
theorem dX6_line_36 : decode cX6_line 36 = .ok (.getfield 10, 3) := by decide +kernel
theorem dX6_line_39 : decode cX6_line 39 = .ok (.iload_n 1, 1) := by decide +kernel
theorem dX6_line_40 : decode cX6_line 40 = .ok (.iload_n 2, 1) := by decide +kernel
theorem dX6_line_41 : decode cX6_line 41 = .ok (.invokevirtual 77, 3) := by decide +kernel
theorem dX6_line_44 : decode cX6_line 44 = .ok (.ifCond .eq 7, 3) := by decide +kernel
theorem dX6_line_47 : decode cX6_line 47 = .ok (.sipush (-1003), 3) := by decide +kernel
theorem dX6_line_50 : decode cX6_line 50 = .ok (.ireturn, 1) := by decide +kernel
theorem dX6_line_51 : decode cX6_line 51 = .ok (.aload_n 0, 1) := by decide +kernel
theorem dX6_line_52 : decode cX6_line 52 = .ok (.getfield 10, 3) := by decide +kernel
theorem dX6_line_55 : decode cX6_line 55 = .ok (.getfield 81, 3) := by decide +kernel
theorem dX6_line_58 : decode cX6_line 58 = .ok (.bipush 24, 2) := by decide +kernel
theorem dX6_line_60 : decode cX6_line 60 = .ok (.if_icmp .lt 7, 3) := by decide +kernel
theorem dX6_line_63 : decode cX6_line 63 = .ok (.sipush (-1004), 3) := by decide +kernel
theorem dX6_line_66 : decode cX6_line 66 = .ok (.ireturn, 1) := by decide +kernel
theorem dX6_line_67 : decode cX6_line 67 = .ok (.aload_n 0, 1) := by decide +kernel
theorem dX6_line_68 : decode cX6_line 68 = .ok (.getfield 10, 3) := by decide +kernel
theorem dX6_line_71 : decode cX6_line 71 = .ok (.iload_n 1, 1) := by decide +kernel
theorem dX6_line_72 : decode cX6_line 72 = .ok (.iload_n 2, 1) := by decide +kernel
theorem dX6_line_73 : decode cX6_line 73 = .ok (.invokevirtual 84, 3) := by decide +kernel
theorem dX6_line_76 : decode cX6_line 76 = .ok (.ireturn, 1) := by decide +kernel
set_option maxRecDepth 20000 in
theorem ggX6_node_X3_has : GoodIn wsX6_node wsX3_has := goodIn_r _ [8, 9, 10, 11, 12, 25, 26, 27, 28, 29, 30] (by decide +kernel) (by decide +kernel)
set_option maxRecDepth 20000 in
theorem gX6_node_X3_has : GoodIn wsX6_node (wsV RX6 73 RX3 yX3_has wsX3_has) := goodIn_app (goodIn_of _ (by decide +kernel)) ggX6_node_X3_has
set_option maxRecDepth 20000 in
theorem ggX6_node_X6_within : GoodIn wsX6_node wsX6_within := goodIn_r _ [12] (by decide +kernel) (by decide +kernel)
set_option maxRecDepth 20000 in
theorem gX6_node_X6_within : GoodIn wsX6_node (va_wsS RX6 59 yX6_within wsX6_within) := goodIn_app (goodIn_of _ (by decide +kernel)) ggX6_node_X6_within
set_option maxRecDepth 20000 in
theorem ggX6_node_X6_swap : GoodIn wsX6_node wsX6_swap := goodIn_r _ [16] (by decide +kernel) (by decide +kernel)
set_option maxRecDepth 20000 in
theorem gX6_node_X6_swap : GoodIn wsX6_node (va_wsS RX6 91 yX6_swap wsX6_swap) := goodIn_app (goodIn_of _ (by decide +kernel)) ggX6_node_X6_swap
theorem dX6_node_0 : decode cX6_node 0 = .ok (.aload_n 0, 1) := by decide +kernel
theorem dX6_node_1 : decode cX6_node 1 = .ok (.getfield 10, 3) := by decide +kernel
theorem dX6_node_4 : decode cX6_node 4 = .ok (.iload_n 1, 1) := by decide +kernel
theorem dX6_node_5 : decode cX6_node 5 = .ok (.invokevirtual 73, 3) := by decide +kernel
theorem dX6_node_8 : decode cX6_node 8 = .ok (.ifCond .ne 7, 3) := by decide +kernel
theorem dX6_node_11 : decode cX6_node 11 = .ok (.sipush (-1001), 3) := by decide +kernel
theorem dX6_node_14 : decode cX6_node 14 = .ok (.ireturn, 1) := by decide +kernel
theorem dX6_node_15 : decode cX6_node 15 = .ok (.iload_n 2, 1) := by decide +kernel
theorem dX6_node_16 : decode cX6_node 16 = .ok (.ifCond .ne 26, 3) := by decide +kernel
theorem dX6_node_19 : decode cX6_node 19 = .ok (.iload_n 3, 1) := by decide +kernel
theorem dX6_node_20 : decode cX6_node 20 = .ok (.iconst 0, 1) := by decide +kernel
theorem dX6_node_21 : decode cX6_node 21 = .ok (.bipush 9, 2) := by decide +kernel
theorem dX6_node_23 : decode cX6_node 23 = .ok (.invokestatic 59, 3) := by decide +kernel
theorem dX6_node_26 : decode cX6_node 26 = .ok (.ifCond .eq 16, 3) := by decide +kernel
theorem dX6_node_29 : decode cX6_node 29 = .ok (.aload_n 0, 1) := by decide +kernel
theorem dX6_node_30 : decode cX6_node 30 = .ok (.getfield 10, 3) := by decide +kernel
theorem dX6_node_33 : decode cX6_node 33 = .ok (.getfield 88, 3) := by decide +kernel
theorem dX6_node_36 : decode cX6_node 36 = .ok (.iload_n 1, 1) := by decide +kernel
theorem dX6_node_37 : decode cX6_node 37 = .ok (.iload_n 3, 1) := by decide +kernel
theorem dX6_node_38 : decode cX6_node 38 = .ok (.invokestatic 91, 3) := by decide +kernel
theorem dX6_node_41 : decode cX6_node 41 = .ok (.ireturn, 1) := by decide +kernel
theorem dX6_node_42 : decode cX6_node 42 = .ok (.iload_n 2, 1) := by decide +kernel
theorem dX6_node_43 : decode cX6_node 43 = .ok (.iconst 1, 1) := by decide +kernel
theorem dX6_node_44 : decode cX6_node 44 = .ok (.if_icmp .ne 26, 3) := by decide +kernel
theorem dX6_node_47 : decode cX6_node 47 = .ok (.iload_n 3, 1) := by decide +kernel
theorem dX6_node_48 : decode cX6_node 48 = .ok (.iconst 1, 1) := by decide +kernel
theorem dX6_node_49 : decode cX6_node 49 = .ok (.bipush 9, 2) := by decide +kernel
theorem dX6_node_51 : decode cX6_node 51 = .ok (.invokestatic 59, 3) := by decide +kernel
theorem dX6_node_54 : decode cX6_node 54 = .ok (.ifCond .eq 16, 3) := by decide +kernel
theorem dX6_node_57 : decode cX6_node 57 = .ok (.aload_n 0, 1) := by decide +kernel
theorem dX6_node_58 : decode cX6_node 58 = .ok (.getfield 10, 3) := by decide +kernel
theorem dX6_node_61 : decode cX6_node 61 = .ok (.getfield 95, 3) := by decide +kernel
theorem dX6_node_64 : decode cX6_node 64 = .ok (.iload_n 1, 1) := by decide +kernel
theorem dX6_node_65 : decode cX6_node 65 = .ok (.iload_n 3, 1) := by decide +kernel
theorem dX6_node_66 : decode cX6_node 66 = .ok (.invokestatic 91, 3) := by decide +kernel
theorem dX6_node_69 : decode cX6_node 69 = .ok (.ireturn, 1) := by decide +kernel
theorem dX6_node_70 : decode cX6_node 70 = .ok (.sipush (-1002), 3) := by decide +kernel
theorem dX6_node_73 : decode cX6_node 73 = .ok (.ireturn, 1) := by decide +kernel
set_option maxRecDepth 20000 in
theorem ggX6_purse_X6_within : GoodIn wsX6_purse wsX6_within := goodIn_r _ [6] (by decide +kernel) (by decide +kernel)
set_option maxRecDepth 20000 in
theorem gX6_purse_X6_within : GoodIn wsX6_purse (va_wsS RX6 59 yX6_within wsX6_within) := goodIn_app (goodIn_of _ (by decide +kernel)) ggX6_purse_X6_within
set_option maxRecDepth 20000 in
theorem ggX6_purse_X6_swap : GoodIn wsX6_purse wsX6_swap := goodIn_r _ [9] (by decide +kernel) (by decide +kernel)
set_option maxRecDepth 20000 in
theorem gX6_purse_X6_swap : GoodIn wsX6_purse (va_wsS RX6 91 yX6_swap wsX6_swap) := goodIn_app (goodIn_of _ (by decide +kernel)) ggX6_purse_X6_swap
theorem dX6_purse_0 : decode cX6_purse 0 = .ok (.iload_n 1, 1) := by decide +kernel
theorem dX6_purse_1 : decode cX6_purse 1 = .ok (.iconst 1, 1) := by decide +kernel
theorem dX6_purse_2 : decode cX6_purse 2 = .ok (.bipush 8, 2) := by decide +kernel
theorem dX6_purse_4 : decode cX6_purse 4 = .ok (.invokestatic 59, 3) := by decide +kernel
theorem dX6_purse_7 : decode cX6_purse 7 = .ok (.ifCond .eq 13, 3) := by decide +kernel
theorem dX6_purse_10 : decode cX6_purse 10 = .ok (.iload_n 2, 1) := by decide +kernel
theorem dX6_purse_11 : decode cX6_purse 11 = .ok (.iconst 0, 1) := by decide +kernel
theorem dX6_purse_12 : decode cX6_purse 12 = .ok (.bipush 20, 2) := by decide +kernel
theorem dX6_purse_14 : decode cX6_purse 14 = .ok (.invokestatic 59, 3) := by decide +kernel
theorem dX6_purse_17 : decode cX6_purse 17 = .ok (.ifCond .ne 7, 3) := by decide +kernel
theorem dX6_purse_20 : decode cX6_purse 20 = .ok (.sipush (-1002), 3) := by decide +kernel
theorem dX6_purse_23 : decode cX6_purse 23 = .ok (.ireturn, 1) := by decide +kernel
theorem dX6_purse_24 : decode cX6_purse 24 = .ok (.aload_n 0, 1) := by decide +kernel
theorem dX6_purse_25 : decode cX6_purse 25 = .ok (.getfield 19, 3) := by decide +kernel
theorem dX6_purse_28 : decode cX6_purse 28 = .ok (.getfield 98, 3) := by decide +kernel
theorem dX6_purse_31 : decode cX6_purse 31 = .ok (.iload_n 1, 1) := by decide +kernel
theorem dX6_purse_32 : decode cX6_purse 32 = .ok (.iconst 1, 1) := by decide +kernel
theorem dX6_purse_33 : decode cX6_purse 33 = .ok (.isub, 1) := by decide +kernel
theorem dX6_purse_34 : decode cX6_purse 34 = .ok (.iload_n 2, 1) := by decide +kernel
theorem dX6_purse_35 : decode cX6_purse 35 = .ok (.invokestatic 91, 3) := by decide +kernel
theorem dX6_purse_38 : decode cX6_purse 38 = .ok (.ireturn, 1) := by decide +kernel
set_option maxRecDepth 20000 in
theorem ggX6_rule_X6_within : GoodIn wsX6_rule wsX6_within := goodIn_r _ [7] (by decide +kernel) (by decide +kernel)
set_option maxRecDepth 20000 in
theorem gX6_rule_X6_within : GoodIn wsX6_rule (va_wsS RX6 59 yX6_within wsX6_within) := goodIn_app (goodIn_of _ (by decide +kernel)) ggX6_rule_X6_within
theorem dX6_rule_0 : decode cX6_rule 0 = .ok (.iload_n 1, 1) := by decide +kernel
theorem dX6_rule_1 : decode cX6_rule 1 = .ok (.ifCond .ne 30, 3) := by decide +kernel
theorem dX6_rule_4 : decode cX6_rule 4 = .ok (.iload_n 2, 1) := by decide +kernel
theorem dX6_rule_5 : decode cX6_rule 5 = .ok (.iconst 0, 1) := by decide +kernel
theorem dX6_rule_6 : decode cX6_rule 6 = .ok (.iconst 1, 1) := by decide +kernel
theorem dX6_rule_7 : decode cX6_rule 7 = .ok (.invokestatic 59, 3) := by decide +kernel
theorem dX6_rule_10 : decode cX6_rule 10 = .ok (.ifCond .eq 21, 3) := by decide +kernel
theorem dX6_rule_13 : decode cX6_rule 13 = .ok (.aload_n 0, 1) := by decide +kernel
theorem dX6_rule_14 : decode cX6_rule 14 = .ok (.getfield 19, 3) := by decide +kernel
theorem dX6_rule_17 : decode cX6_rule 17 = .ok (.getfield 101, 3) := by decide +kernel
theorem dX6_rule_20 : decode cX6_rule 20 = .ok (.istore_n 3, 1) := by decide +kernel
theorem dX6_rule_21 : decode cX6_rule 21 = .ok (.aload_n 0, 1) := by decide +kernel
theorem dX6_rule_22 : decode cX6_rule 22 = .ok (.getfield 19, 3) := by decide +kernel
theorem dX6_rule_25 : decode cX6_rule 25 = .ok (.iload_n 2, 1) := by decide +kernel
theorem dX6_rule_26 : decode cX6_rule 26 = .ok (.putfield 101, 3) := by decide +kernel
theorem dX6_rule_29 : decode cX6_rule 29 = .ok (.iload_n 3, 1) := by decide +kernel
theorem dX6_rule_30 : decode cX6_rule 30 = .ok (.ireturn, 1) := by decide +kernel
theorem dX6_rule_31 : decode cX6_rule 31 = .ok (.iload_n 1, 1) := by decide +kernel
theorem dX6_rule_32 : decode cX6_rule 32 = .ok (.iconst 1, 1) := by decide +kernel
theorem dX6_rule_33 : decode cX6_rule 33 = .ok (.if_icmp .ne 27, 3) := by decide +kernel
theorem dX6_rule_36 : decode cX6_rule 36 = .ok (.iload_n 2, 1) := by decide +kernel
theorem dX6_rule_37 : decode cX6_rule 37 = .ok (.bipush 50, 2) := by decide +kernel
theorem dX6_rule_39 : decode cX6_rule 39 = .ok (.sipush 1000, 3) := by decide +kernel
theorem dX6_rule_42 : decode cX6_rule 42 = .ok (.invokestatic 59, 3) := by decide +kernel
theorem dX6_rule_45 : decode cX6_rule 45 = .ok (.ifCond .eq 15, 3) := by decide +kernel
theorem dX6_rule_48 : decode cX6_rule 48 = .ok (.aload_n 0, 1) := by decide +kernel
theorem dX6_rule_49 : decode cX6_rule 49 = .ok (.getfield 55, 3) := by decide +kernel
theorem dX6_rule_52 : decode cX6_rule 52 = .ok (.istore_n 3, 1) := by decide +kernel
theorem dX6_rule_53 : decode cX6_rule 53 = .ok (.aload_n 0, 1) := by decide +kernel
theorem dX6_rule_54 : decode cX6_rule 54 = .ok (.iload_n 2, 1) := by decide +kernel
theorem dX6_rule_55 : decode cX6_rule 55 = .ok (.putfield 55, 3) := by decide +kernel
theorem dX6_rule_58 : decode cX6_rule 58 = .ok (.iload_n 3, 1) := by decide +kernel
theorem dX6_rule_59 : decode cX6_rule 59 = .ok (.ireturn, 1) := by decide +kernel
theorem dX6_rule_60 : decode cX6_rule 60 = .ok (.sipush (-1002), 3) := by decide +kernel
theorem dX6_rule_63 : decode cX6_rule 63 = .ok (.ireturn, 1) := by decide +kernel
set_option maxRecDepth 20000 in
theorem ggX6_count_X3_all : GoodIn wsX6_count wsX3_all := goodIn_r _ [10, 11, 39, 40, 41, 42, 43, 44] (by decide +kernel) (by decide +kernel)
set_option maxRecDepth 20000 in
theorem gX6_count_X3_all : GoodIn wsX6_count (wsV RX6 107 RX3 yX3_all wsX3_all) := goodIn_app (goodIn_of _ (by decide +kernel)) ggX6_count_X3_all
set_option maxRecDepth 20000 in
theorem ggX6_count_X3_worthOf : GoodIn wsX6_count wsX3_worthOf := goodIn_r _ [15, 16, 17, 18, 9, 19, 39, 40, 41, 42, 43, 44] (by decide +kernel) (by decide +kernel)
set_option maxRecDepth 20000 in
theorem gX6_count_X3_worthOf : GoodIn wsX6_count (wsV RX6 111 RX3 yX3_worthOf wsX3_worthOf) := goodIn_app (goodIn_of _ (by decide +kernel)) ggX6_count_X3_worthOf
set_option maxRecDepth 20000 in
theorem ggX6_count_X0_needed : GoodIn wsX6_count wsX0_needed := goodIn_r _ [24, 25, 26, 27, 28, 29, 30, 45, 46, 47, 48, 49, 50, 51, 52, 53] (by decide +kernel) (by decide +kernel)
set_option maxRecDepth 20000 in
theorem gX6_count_X0_needed : GoodIn wsX6_count (wsV RX6 118 RX0 yX0_needed wsX0_needed) := goodIn_app (goodIn_of _ (by decide +kernel)) ggX6_count_X0_needed
theorem dX6_count_0 : decode cX6_count 0 = .ok (.iload_n 1, 1) := by decide +kernel
theorem dX6_count_1 : decode cX6_count 1 = .ok (.tableswitch 82 0 4 #[35, 43, 51, 66, 74], 35) := by decide +kernel
theorem dX6_count_36 : decode cX6_count 36 = .ok (.aload_n 0, 1) := by decide +kernel
theorem dX6_count_37 : decode cX6_count 37 = .ok (.getfield 10, 3) := by decide +kernel
theorem dX6_count_40 : decode cX6_count 40 = .ok (.getfield 104, 3) := by decide +kernel
theorem dX6_count_43 : decode cX6_count 43 = .ok (.ireturn, 1) := by decide +kernel
theorem dX6_count_44 : decode cX6_count 44 = .ok (.aload_n 0, 1) := by decide +kernel
theorem dX6_count_45 : decode cX6_count 45 = .ok (.getfield 10, 3) := by decide +kernel
theorem dX6_count_48 : decode cX6_count 48 = .ok (.getfield 81, 3) := by decide +kernel
theorem dX6_count_51 : decode cX6_count 51 = .ok (.ireturn, 1) := by decide +kernel
theorem dX6_count_52 : decode cX6_count 52 = .ok (.aload_n 0, 1) := by decide +kernel
theorem dX6_count_53 : decode cX6_count 53 = .ok (.getfield 10, 3) := by decide +kernel
theorem dX6_count_56 : decode cX6_count 56 = .ok (.aload_n 0, 1) := by decide +kernel
theorem dX6_count_57 : decode cX6_count 57 = .ok (.getfield 10, 3) := by decide +kernel
theorem dX6_count_60 : decode cX6_count 60 = .ok (.invokevirtual 107, 3) := by decide +kernel
theorem dX6_count_63 : decode cX6_count 63 = .ok (.invokevirtual 111, 3) := by decide +kernel
theorem dX6_count_66 : decode cX6_count 66 = .ok (.ireturn, 1) := by decide +kernel
theorem dX6_count_67 : decode cX6_count 67 = .ok (.aload_n 0, 1) := by decide +kernel
theorem dX6_count_68 : decode cX6_count 68 = .ok (.getfield 51, 3) := by decide +kernel
theorem dX6_count_71 : decode cX6_count 71 = .ok (.getfield 115, 3) := by decide +kernel
theorem dX6_count_74 : decode cX6_count 74 = .ok (.ireturn, 1) := by decide +kernel
theorem dX6_count_75 : decode cX6_count 75 = .ok (.aload_n 0, 1) := by decide +kernel
theorem dX6_count_76 : decode cX6_count 76 = .ok (.getfield 51, 3) := by decide +kernel
theorem dX6_count_79 : decode cX6_count 79 = .ok (.invokevirtual 118, 3) := by decide +kernel
theorem dX6_count_82 : decode cX6_count 82 = .ok (.ireturn, 1) := by decide +kernel
theorem dX6_count_83 : decode cX6_count 83 = .ok (.sipush (-1002), 3) := by decide +kernel
theorem dX6_count_86 : decode cX6_count 86 = .ok (.ireturn, 1) := by decide +kernel
set_option maxRecDepth 20000 in
theorem ggX6_plan_X6_within : GoodIn wsX6_plan wsX6_within := goodIn_r _ [5] (by decide +kernel) (by decide +kernel)
set_option maxRecDepth 20000 in
theorem gX6_plan_X6_within : GoodIn wsX6_plan (va_wsS RX6 59 yX6_within wsX6_within) := goodIn_app (goodIn_of _ (by decide +kernel)) ggX6_plan_X6_within
set_option maxRecDepth 20000 in
theorem ggX6_plan_X6_swap : GoodIn wsX6_plan wsX6_swap := goodIn_r _ [8] (by decide +kernel) (by decide +kernel)
set_option maxRecDepth 20000 in
theorem gX6_plan_X6_swap : GoodIn wsX6_plan (va_wsS RX6 91 yX6_swap wsX6_swap) := goodIn_app (goodIn_of _ (by decide +kernel)) ggX6_plan_X6_swap
theorem dX6_plan_0 : decode cX6_plan 0 = .ok (.iload_n 1, 1) := by decide +kernel
theorem dX6_plan_1 : decode cX6_plan 1 = .ok (.iconst 1, 1) := by decide +kernel
theorem dX6_plan_2 : decode cX6_plan 2 = .ok (.bipush 8, 2) := by decide +kernel
theorem dX6_plan_4 : decode cX6_plan 4 = .ok (.invokestatic 59, 3) := by decide +kernel
theorem dX6_plan_7 : decode cX6_plan 7 = .ok (.ifCond .eq 14, 3) := by decide +kernel
theorem dX6_plan_10 : decode cX6_plan 10 = .ok (.iload_n 2, 1) := by decide +kernel
theorem dX6_plan_11 : decode cX6_plan 11 = .ok (.iconst 0, 1) := by decide +kernel
theorem dX6_plan_12 : decode cX6_plan 12 = .ok (.sipush 1023, 3) := by decide +kernel
theorem dX6_plan_15 : decode cX6_plan 15 = .ok (.invokestatic 59, 3) := by decide +kernel
theorem dX6_plan_18 : decode cX6_plan 18 = .ok (.ifCond .ne 7, 3) := by decide +kernel
theorem dX6_plan_21 : decode cX6_plan 21 = .ok (.sipush (-1002), 3) := by decide +kernel
theorem dX6_plan_24 : decode cX6_plan 24 = .ok (.ireturn, 1) := by decide +kernel
theorem dX6_plan_25 : decode cX6_plan 25 = .ok (.aload_n 0, 1) := by decide +kernel
theorem dX6_plan_26 : decode cX6_plan 26 = .ok (.getfield 23, 3) := by decide +kernel
theorem dX6_plan_29 : decode cX6_plan 29 = .ok (.iload_n 1, 1) := by decide +kernel
theorem dX6_plan_30 : decode cX6_plan 30 = .ok (.iconst 1, 1) := by decide +kernel
theorem dX6_plan_31 : decode cX6_plan 31 = .ok (.isub, 1) := by decide +kernel
theorem dX6_plan_32 : decode cX6_plan 32 = .ok (.iload_n 2, 1) := by decide +kernel
theorem dX6_plan_33 : decode cX6_plan 33 = .ok (.invokestatic 91, 3) := by decide +kernel
theorem dX6_plan_36 : decode cX6_plan 36 = .ok (.ireturn, 1) := by decide +kernel
set_option maxRecDepth 20000 in
theorem ggX6_play_X3_isStart : GoodIn wsX6_play wsX3_isStart := goodIn_r _ [12, 13, 14, 15, 11, 16, 17, 18, 19, 20, 114, 115, 116, 117, 118, 119] (by decide +kernel) (by decide +kernel)
set_option maxRecDepth 20000 in
theorem gX6_play_X3_isStart : GoodIn wsX6_play (wsV RX6 121 RX3 yX3_isStart wsX3_isStart) := goodIn_app (goodIn_of _ (by decide +kernel)) ggX6_play_X3_isStart
set_option maxRecDepth 20000 in
theorem ggX6_play_X6_within : GoodIn wsX6_play wsX6_within := goodIn_r _ [20] (by decide +kernel) (by decide +kernel)
set_option maxRecDepth 20000 in
theorem gX6_play_X6_within : GoodIn wsX6_play (va_wsS RX6 59 yX6_within wsX6_within) := goodIn_app (goodIn_of _ (by decide +kernel)) ggX6_play_X6_within
set_option maxRecDepth 20000 in
theorem ggX6_play_X6_runPlan : GoodIn wsX6_play wsX6_runPlan := goodIn_r _ [25, 2, 26, 1, 27, 28, 29, 30, 31, 32, 33, 34, 35, 36, 37, 38, 39, 40, 41, 42, 43, 44, 45, 46, 47, 48, 49, 50, 51, 52, 53, 54, 55, 56, 57, 58, 59, 60, 61, 62, 63, 64, 65, 66, 67, 68, 11, 69, 13, 14, 15, 16, 17, 70, 71, 72, 73, 74, 75, 76, 77, 78, 79, 80, 81, 82, 83, 84, 85, 86, 87, 88, 89, 90, 91, 92, 19, 93, 99, 100, 101, 102, 103, 104, 105, 106, 107, 108, 109, 110, 111, 112, 113, 120, 121, 114, 115, 116, 117, 118, 119] (by decide +kernel) (by decide +kernel)
set_option maxRecDepth 20000 in
theorem gX6_play_X6_runPlan : GoodIn wsX6_play (wsV RX6 124 RX6 yX6_runPlan wsX6_runPlan) := goodIn_app (goodIn_of _ (by decide +kernel)) ggX6_play_X6_runPlan
set_option maxRecDepth 20000 in
theorem ggX6_play_X3_savedFrom : GoodIn wsX6_play wsX3_savedFrom := goodIn_r _ [97, 98, 13, 14, 15, 11, 16, 17, 75, 76, 77, 114, 115, 116, 117, 118, 119] (by decide +kernel) (by decide +kernel)
set_option maxRecDepth 20000 in
theorem gX6_play_X3_savedFrom : GoodIn wsX6_play (wsV RX6 135 RX3 yX3_savedFrom wsX3_savedFrom) := goodIn_app (goodIn_of _ (by decide +kernel)) ggX6_play_X3_savedFrom
theorem dX6_play_0 : decode cX6_play 0 = .ok (.aload_n 0, 1) := by decide +kernel
theorem dX6_play_1 : decode cX6_play 1 = .ok (.getfield 10, 3) := by decide +kernel
theorem dX6_play_4 : decode cX6_play 4 = .ok (.iload_n 1, 1) := by decide +kernel
theorem dX6_play_5 : decode cX6_play 5 = .ok (.invokevirtual 121, 3) := by decide +kernel
theorem dX6_play_8 : decode cX6_play 8 = .ok (.ifCond .eq 12, 3) := by decide +kernel
theorem dX6_play_11 : decode cX6_play 11 = .ok (.iload_n 2, 1) := by decide +kernel
theorem dX6_play_12 : decode cX6_play 12 = .ok (.iconst 0, 1) := by decide +kernel
theorem dX6_play_13 : decode cX6_play 13 = .ok (.iconst 4, 1) := by decide +kernel
theorem dX6_play_14 : decode cX6_play 14 = .ok (.invokestatic 59, 3) := by decide +kernel
theorem dX6_play_17 : decode cX6_play 17 = .ok (.ifCond .ne 7, 3) := by decide +kernel
theorem dX6_play_20 : decode cX6_play 20 = .ok (.sipush (-1002), 3) := by decide +kernel
theorem dX6_play_23 : decode cX6_play 23 = .ok (.ireturn, 1) := by decide +kernel
theorem dX6_play_24 : decode cX6_play 24 = .ok (.aload_n 0, 1) := by decide +kernel
theorem dX6_play_25 : decode cX6_play 25 = .ok (.iload_n 1, 1) := by decide +kernel
theorem dX6_play_26 : decode cX6_play 26 = .ok (.bipush 20, 2) := by decide +kernel
theorem dX6_play_28 : decode cX6_play 28 = .ok (.invokevirtual 124, 3) := by decide +kernel
theorem dX6_play_31 : decode cX6_play 31 = .ok (.iload_n 2, 1) := by decide +kernel
theorem dX6_play_32 : decode cX6_play 32 = .ok (.tableswitch 85 0 3 #[32, 61, 69, 77], 32) := by decide +kernel
theorem dX6_play_64 : decode cX6_play 64 = .ok (.aload_n 0, 1) := by decide +kernel
theorem dX6_play_65 : decode cX6_play 65 = .ok (.getfield 30, 3) := by decide +kernel
theorem dX6_play_68 : decode cX6_play 68 = .ok (.getfield 128, 3) := by decide +kernel
theorem dX6_play_71 : decode cX6_play 71 = .ok (.ifCond .eq 7, 3) := by decide +kernel
theorem dX6_play_74 : decode cX6_play 74 = .ok (.iconst (-1), 1) := by decide +kernel
theorem dX6_play_75 : decode cX6_play 75 = .ok (.goto 17, 3) := by decide +kernel
theorem dX6_play_78 : decode cX6_play 78 = .ok (.aload_n 0, 1) := by decide +kernel
theorem dX6_play_79 : decode cX6_play 79 = .ok (.getfield 10, 3) := by decide +kernel
theorem dX6_play_82 : decode cX6_play 82 = .ok (.aload_n 0, 1) := by decide +kernel
theorem dX6_play_83 : decode cX6_play 83 = .ok (.getfield 30, 3) := by decide +kernel
theorem dX6_play_86 : decode cX6_play 86 = .ok (.getfield 132, 3) := by decide +kernel
theorem dX6_play_89 : decode cX6_play 89 = .ok (.invokevirtual 135, 3) := by decide +kernel
theorem dX6_play_92 : decode cX6_play 92 = .ok (.ireturn, 1) := by decide +kernel
theorem dX6_play_93 : decode cX6_play 93 = .ok (.aload_n 0, 1) := by decide +kernel
theorem dX6_play_94 : decode cX6_play 94 = .ok (.getfield 30, 3) := by decide +kernel
theorem dX6_play_97 : decode cX6_play 97 = .ok (.getfield 132, 3) := by decide +kernel
theorem dX6_play_100 : decode cX6_play 100 = .ok (.ireturn, 1) := by decide +kernel
theorem dX6_play_101 : decode cX6_play 101 = .ok (.aload_n 0, 1) := by decide +kernel
theorem dX6_play_102 : decode cX6_play 102 = .ok (.getfield 30, 3) := by decide +kernel
theorem dX6_play_105 : decode cX6_play 105 = .ok (.getfield 138, 3) := by decide +kernel
theorem dX6_play_108 : decode cX6_play 108 = .ok (.ireturn, 1) := by decide +kernel
theorem dX6_play_109 : decode cX6_play 109 = .ok (.aload_n 0, 1) := by decide +kernel
theorem dX6_play_110 : decode cX6_play 110 = .ok (.getfield 30, 3) := by decide +kernel
theorem dX6_play_113 : decode cX6_play 113 = .ok (.getfield 141, 3) := by decide +kernel
theorem dX6_play_116 : decode cX6_play 116 = .ok (.ireturn, 1) := by decide +kernel
theorem dX6_play_117 : decode cX6_play 117 = .ok (.aload_n 0, 1) := by decide +kernel
theorem dX6_play_118 : decode cX6_play 118 = .ok (.getfield 30, 3) := by decide +kernel
theorem dX6_play_121 : decode cX6_play 121 = .ok (.getfield 144, 3) := by decide +kernel
theorem dX6_play_124 : decode cX6_play 124 = .ok (.ireturn, 1) := by decide +kernel
set_option maxRecDepth 20000 in
theorem ggX6_burns_X3_isStart : GoodIn wsX6_burns wsX3_isStart := goodIn_r _ [8, 9, 10, 11, 7, 12, 13, 14, 15, 16, 105, 106, 107, 108, 109, 110] (by decide +kernel) (by decide +kernel)
set_option maxRecDepth 20000 in
theorem gX6_burns_X3_isStart : GoodIn wsX6_burns (wsV RX6 121 RX3 yX3_isStart wsX3_isStart) := goodIn_app (goodIn_of _ (by decide +kernel)) ggX6_burns_X3_isStart
set_option maxRecDepth 20000 in
theorem ggX6_burns_X6_within : GoodIn wsX6_burns wsX6_within := goodIn_r _ [16] (by decide +kernel) (by decide +kernel)
set_option maxRecDepth 20000 in
theorem gX6_burns_X6_within : GoodIn wsX6_burns (va_wsS RX6 59 yX6_within wsX6_within) := goodIn_app (goodIn_of _ (by decide +kernel)) ggX6_burns_X6_within
set_option maxRecDepth 20000 in
theorem ggX6_burns_X6_runPlan : GoodIn wsX6_burns wsX6_runPlan := goodIn_r _ [21, 2, 22, 1, 23, 24, 25, 26, 27, 28, 29, 30, 31, 32, 33, 34, 35, 36, 37, 38, 39, 40, 41, 42, 43, 44, 45, 46, 47, 48, 49, 50, 51, 52, 53, 54, 55, 56, 57, 58, 59, 60, 61, 62, 63, 64, 7, 65, 9, 10, 11, 12, 13, 66, 67, 68, 69, 70, 71, 72, 73, 74, 75, 76, 77, 78, 79, 80, 81, 82, 83, 84, 85, 86, 87, 88, 15, 89, 90, 91, 92, 93, 94, 95, 96, 97, 98, 99, 100, 101, 102, 103, 104, 111, 112, 105, 106, 107, 108, 109, 110] (by decide +kernel) (by decide +kernel)
set_option maxRecDepth 20000 in
theorem gX6_burns_X6_runPlan : GoodIn wsX6_burns (wsV RX6 124 RX6 yX6_runPlan wsX6_runPlan) := goodIn_app (goodIn_of _ (by decide +kernel)) ggX6_burns_X6_runPlan
theorem dX6_burns_0 : decode cX6_burns 0 = .ok (.aload_n 0, 1) := by decide +kernel
theorem dX6_burns_1 : decode cX6_burns 1 = .ok (.getfield 10, 3) := by decide +kernel
theorem dX6_burns_4 : decode cX6_burns 4 = .ok (.iload_n 1, 1) := by decide +kernel
theorem dX6_burns_5 : decode cX6_burns 5 = .ok (.invokevirtual 121, 3) := by decide +kernel
theorem dX6_burns_8 : decode cX6_burns 8 = .ok (.ifCond .eq 13, 3) := by decide +kernel
theorem dX6_burns_11 : decode cX6_burns 11 = .ok (.iload_n 2, 1) := by decide +kernel
theorem dX6_burns_12 : decode cX6_burns 12 = .ok (.iconst 0, 1) := by decide +kernel
theorem dX6_burns_13 : decode cX6_burns 13 = .ok (.bipush 20, 2) := by decide +kernel
theorem dX6_burns_15 : decode cX6_burns 15 = .ok (.invokestatic 59, 3) := by decide +kernel
theorem dX6_burns_18 : decode cX6_burns 18 = .ok (.ifCond .ne 7, 3) := by decide +kernel
theorem dX6_burns_21 : decode cX6_burns 21 = .ok (.sipush (-1002), 3) := by decide +kernel
theorem dX6_burns_24 : decode cX6_burns 24 = .ok (.ireturn, 1) := by decide +kernel
theorem dX6_burns_25 : decode cX6_burns 25 = .ok (.aload_n 0, 1) := by decide +kernel
theorem dX6_burns_26 : decode cX6_burns 26 = .ok (.iload_n 1, 1) := by decide +kernel
theorem dX6_burns_27 : decode cX6_burns 27 = .ok (.iload_n 2, 1) := by decide +kernel
theorem dX6_burns_28 : decode cX6_burns 28 = .ok (.invokevirtual 124, 3) := by decide +kernel
theorem dX6_burns_31 : decode cX6_burns 31 = .ok (.aload_n 0, 1) := by decide +kernel
theorem dX6_burns_32 : decode cX6_burns 32 = .ok (.getfield 30, 3) := by decide +kernel
theorem dX6_burns_35 : decode cX6_burns 35 = .ok (.getfield 132, 3) := by decide +kernel
theorem dX6_burns_38 : decode cX6_burns 38 = .ok (.ireturn, 1) := by decide +kernel
set_option maxRecDepth 20000 in
theorem ggX6_best_X3_isStart : GoodIn wsX6_best wsX3_isStart := goodIn_r _ [11, 12, 13, 14, 10, 15, 16, 17, 18, 19, 122, 123, 124, 125, 126, 127] (by decide +kernel) (by decide +kernel)
set_option maxRecDepth 20000 in
theorem gX6_best_X3_isStart : GoodIn wsX6_best (wsV RX6 121 RX3 yX3_isStart wsX3_isStart) := goodIn_app (goodIn_of _ (by decide +kernel)) ggX6_best_X3_isStart
set_option maxRecDepth 20000 in
theorem ggX6_best_X6_within : GoodIn wsX6_best wsX6_within := goodIn_r _ [19] (by decide +kernel) (by decide +kernel)
set_option maxRecDepth 20000 in
theorem gX6_best_X6_within : GoodIn wsX6_best (va_wsS RX6 59 yX6_within wsX6_within) := goodIn_app (goodIn_of _ (by decide +kernel)) ggX6_best_X6_within
set_option maxRecDepth 20000 in
theorem ggX6_best_X6_seekBest : GoodIn wsX6_best wsX6_seekBest := goodIn_r _ [24, 2, 25, 26, 1, 27, 28, 29, 30, 31, 32, 33, 34, 35, 36, 37, 38, 39, 40, 41, 42, 43, 44, 45, 46, 47, 48, 49, 50, 51, 52, 53, 54, 55, 56, 57, 58, 59, 60, 61, 62, 63, 64, 13, 14, 10, 15, 16, 65, 66, 67, 68, 69, 70, 71, 72, 73, 74, 75, 76, 77, 78, 79, 80, 81, 82, 83, 17, 18, 19, 84, 85, 86, 87, 88, 89, 90, 91, 92, 93, 94, 95, 96, 97, 98, 99, 100, 101, 12, 106, 107, 108, 109, 110, 111, 112, 113, 114, 115, 116, 117, 118, 119, 120, 121, 128, 129, 122, 123, 124, 125, 126, 127] (by decide +kernel) (by decide +kernel)
set_option maxRecDepth 20000 in
theorem gX6_best_X6_seekBest : GoodIn wsX6_best (wsV RX6 147 RX6 yX6_seekBest wsX6_seekBest) := goodIn_app (goodIn_of _ (by decide +kernel)) ggX6_best_X6_seekBest
set_option maxRecDepth 20000 in
theorem ggX6_best_X5_chosen : GoodIn wsX6_best wsX5_chosen := goodIn_r _ [105, 96, 17, 18, 19, 114, 115, 116, 117, 118, 119, 120, 121] (by decide +kernel) (by decide +kernel)
set_option maxRecDepth 20000 in
theorem gX6_best_X5_chosen : GoodIn wsX6_best (wsV RX6 162 RX5 yX5_chosen wsX5_chosen) := goodIn_app (goodIn_of _ (by decide +kernel)) ggX6_best_X5_chosen
theorem dX6_best_0 : decode cX6_best 0 = .ok (.aload_n 0, 1) := by decide +kernel
theorem dX6_best_1 : decode cX6_best 1 = .ok (.getfield 10, 3) := by decide +kernel
theorem dX6_best_4 : decode cX6_best 4 = .ok (.iload_n 1, 1) := by decide +kernel
theorem dX6_best_5 : decode cX6_best 5 = .ok (.invokevirtual 121, 3) := by decide +kernel
theorem dX6_best_8 : decode cX6_best 8 = .ok (.ifCond .eq 13, 3) := by decide +kernel
theorem dX6_best_11 : decode cX6_best 11 = .ok (.iload_n 2, 1) := by decide +kernel
theorem dX6_best_12 : decode cX6_best 12 = .ok (.iconst 0, 1) := by decide +kernel
theorem dX6_best_13 : decode cX6_best 13 = .ok (.bipush 11, 2) := by decide +kernel
theorem dX6_best_15 : decode cX6_best 15 = .ok (.invokestatic 59, 3) := by decide +kernel
theorem dX6_best_18 : decode cX6_best 18 = .ok (.ifCond .ne 7, 3) := by decide +kernel
theorem dX6_best_21 : decode cX6_best 21 = .ok (.sipush (-1002), 3) := by decide +kernel
theorem dX6_best_24 : decode cX6_best 24 = .ok (.ireturn, 1) := by decide +kernel
theorem dX6_best_25 : decode cX6_best 25 = .ok (.aload_n 0, 1) := by decide +kernel
theorem dX6_best_26 : decode cX6_best 26 = .ok (.iload_n 1, 1) := by decide +kernel
theorem dX6_best_27 : decode cX6_best 27 = .ok (.invokevirtual 147, 3) := by decide +kernel
theorem dX6_best_30 : decode cX6_best 30 = .ok (.iload_n 2, 1) := by decide +kernel
theorem dX6_best_31 : decode cX6_best 31 = .ok (.tableswitch 69 0 3 #[29, 37, 45, 61], 29) := by decide +kernel
theorem dX6_best_60 : decode cX6_best 60 = .ok (.aload_n 0, 1) := by decide +kernel
theorem dX6_best_61 : decode cX6_best 61 = .ok (.getfield 37, 3) := by decide +kernel
theorem dX6_best_64 : decode cX6_best 64 = .ok (.getfield 150, 3) := by decide +kernel
theorem dX6_best_67 : decode cX6_best 67 = .ok (.ireturn, 1) := by decide +kernel
theorem dX6_best_68 : decode cX6_best 68 = .ok (.aload_n 0, 1) := by decide +kernel
theorem dX6_best_69 : decode cX6_best 69 = .ok (.getfield 37, 3) := by decide +kernel
theorem dX6_best_72 : decode cX6_best 72 = .ok (.getfield 153, 3) := by decide +kernel
theorem dX6_best_75 : decode cX6_best 75 = .ok (.ireturn, 1) := by decide +kernel
theorem dX6_best_76 : decode cX6_best 76 = .ok (.aload_n 0, 1) := by decide +kernel
theorem dX6_best_77 : decode cX6_best 77 = .ok (.getfield 37, 3) := by decide +kernel
theorem dX6_best_80 : decode cX6_best 80 = .ok (.getfield 156, 3) := by decide +kernel
theorem dX6_best_83 : decode cX6_best 83 = .ok (.ifCond .eq 7, 3) := by decide +kernel
theorem dX6_best_86 : decode cX6_best 86 = .ok (.iconst 1, 1) := by decide +kernel
theorem dX6_best_87 : decode cX6_best 87 = .ok (.goto 4, 3) := by decide +kernel
theorem dX6_best_90 : decode cX6_best 90 = .ok (.iconst 0, 1) := by decide +kernel
theorem dX6_best_91 : decode cX6_best 91 = .ok (.ireturn, 1) := by decide +kernel
theorem dX6_best_92 : decode cX6_best 92 = .ok (.aload_n 0, 1) := by decide +kernel
theorem dX6_best_93 : decode cX6_best 93 = .ok (.getfield 37, 3) := by decide +kernel
theorem dX6_best_96 : decode cX6_best 96 = .ok (.getfield 159, 3) := by decide +kernel
theorem dX6_best_99 : decode cX6_best 99 = .ok (.ireturn, 1) := by decide +kernel
theorem dX6_best_100 : decode cX6_best 100 = .ok (.aload_n 0, 1) := by decide +kernel
theorem dX6_best_101 : decode cX6_best 101 = .ok (.getfield 37, 3) := by decide +kernel
theorem dX6_best_104 : decode cX6_best 104 = .ok (.iload_n 2, 1) := by decide +kernel
theorem dX6_best_105 : decode cX6_best 105 = .ok (.iconst 3, 1) := by decide +kernel
theorem dX6_best_106 : decode cX6_best 106 = .ok (.isub, 1) := by decide +kernel
theorem dX6_best_107 : decode cX6_best 107 = .ok (.invokevirtual 162, 3) := by decide +kernel
theorem dX6_best_110 : decode cX6_best 110 = .ok (.ireturn, 1) := by decide +kernel
set_option maxRecDepth 20000 in
theorem ggX6_take_X3_isStart : GoodIn wsX6_take wsX3_isStart := goodIn_r _ [9, 10, 11, 12, 8, 13, 14, 15, 16, 17, 119, 120, 121, 122, 123, 124] (by decide +kernel) (by decide +kernel)
set_option maxRecDepth 20000 in
theorem gX6_take_X3_isStart : GoodIn wsX6_take (wsV RX6 121 RX3 yX3_isStart wsX3_isStart) := goodIn_app (goodIn_of _ (by decide +kernel)) ggX6_take_X3_isStart
set_option maxRecDepth 20000 in
theorem ggX6_take_X6_seekBest : GoodIn wsX6_take wsX6_seekBest := goodIn_r _ [21, 3, 22, 23, 1, 24, 25, 26, 27, 28, 29, 30, 31, 32, 33, 34, 35, 36, 37, 38, 39, 40, 41, 42, 43, 44, 45, 46, 47, 48, 49, 50, 51, 52, 53, 54, 55, 56, 57, 58, 59, 60, 61, 11, 12, 8, 13, 14, 62, 63, 64, 65, 66, 67, 68, 69, 70, 71, 72, 73, 74, 75, 76, 77, 78, 79, 80, 15, 16, 17, 81, 82, 83, 84, 85, 86, 87, 88, 89, 90, 91, 92, 93, 94, 95, 96, 97, 98, 10, 103, 104, 105, 106, 107, 108, 109, 110, 111, 112, 113, 114, 115, 116, 117, 118, 125, 126, 119, 120, 121, 122, 123, 124] (by decide +kernel) (by decide +kernel)
set_option maxRecDepth 20000 in
theorem gX6_take_X6_seekBest : GoodIn wsX6_take (wsV RX6 147 RX6 yX6_seekBest wsX6_seekBest) := goodIn_app (goodIn_of _ (by decide +kernel)) ggX6_take_X6_seekBest
set_option maxRecDepth 20000 in
theorem ggX6_take_X5_chosen : GoodIn wsX6_take wsX5_chosen := goodIn_r _ [102, 93, 15, 16, 17, 111, 112, 113, 114, 115, 116, 117, 118] (by decide +kernel) (by decide +kernel)
set_option maxRecDepth 20000 in
theorem gX6_take_X5_chosen : GoodIn wsX6_take (wsV RX6 162 RX5 yX5_chosen wsX5_chosen) := goodIn_app (goodIn_of _ (by decide +kernel)) ggX6_take_X5_chosen
theorem dX6_take_0 : decode cX6_take 0 = .ok (.aload_n 0, 1) := by decide +kernel
theorem dX6_take_1 : decode cX6_take 1 = .ok (.getfield 10, 3) := by decide +kernel
theorem dX6_take_4 : decode cX6_take 4 = .ok (.iload_n 1, 1) := by decide +kernel
theorem dX6_take_5 : decode cX6_take 5 = .ok (.invokevirtual 121, 3) := by decide +kernel
theorem dX6_take_8 : decode cX6_take 8 = .ok (.ifCond .ne 7, 3) := by decide +kernel
theorem dX6_take_11 : decode cX6_take 11 = .ok (.sipush (-1002), 3) := by decide +kernel
theorem dX6_take_14 : decode cX6_take 14 = .ok (.ireturn, 1) := by decide +kernel
theorem dX6_take_15 : decode cX6_take 15 = .ok (.aload_n 0, 1) := by decide +kernel
theorem dX6_take_16 : decode cX6_take 16 = .ok (.iload_n 1, 1) := by decide +kernel
theorem dX6_take_17 : decode cX6_take 17 = .ok (.invokevirtual 147, 3) := by decide +kernel
theorem dX6_take_20 : decode cX6_take 20 = .ok (.iconst 0, 1) := by decide +kernel
theorem dX6_take_21 : decode cX6_take 21 = .ok (.istore_n 2, 1) := by decide +kernel
theorem dX6_take_22 : decode cX6_take 22 = .ok (.iload_n 2, 1) := by decide +kernel
theorem dX6_take_23 : decode cX6_take 23 = .ok (.bipush 8, 2) := by decide +kernel
theorem dX6_take_25 : decode cX6_take 25 = .ok (.if_icmp .ge 25, 3) := by decide +kernel
theorem dX6_take_28 : decode cX6_take 28 = .ok (.aload_n 0, 1) := by decide +kernel
theorem dX6_take_29 : decode cX6_take 29 = .ok (.getfield 23, 3) := by decide +kernel
theorem dX6_take_32 : decode cX6_take 32 = .ok (.iload_n 2, 1) := by decide +kernel
theorem dX6_take_33 : decode cX6_take 33 = .ok (.aload_n 0, 1) := by decide +kernel
theorem dX6_take_34 : decode cX6_take 34 = .ok (.getfield 37, 3) := by decide +kernel
theorem dX6_take_37 : decode cX6_take 37 = .ok (.iload_n 2, 1) := by decide +kernel
theorem dX6_take_38 : decode cX6_take 38 = .ok (.iconst 1, 1) := by decide +kernel
theorem dX6_take_39 : decode cX6_take 39 = .ok (.iadd, 1) := by decide +kernel
theorem dX6_take_40 : decode cX6_take 40 = .ok (.invokevirtual 162, 3) := by decide +kernel
theorem dX6_take_43 : decode cX6_take 43 = .ok (.iastore, 1) := by decide +kernel
theorem dX6_take_44 : decode cX6_take 44 = .ok (.iinc 2 1, 3) := by decide +kernel
theorem dX6_take_47 : decode cX6_take 47 = .ok (.goto (-25), 3) := by decide +kernel
theorem dX6_take_50 : decode cX6_take 50 = .ok (.aload_n 0, 1) := by decide +kernel
theorem dX6_take_51 : decode cX6_take 51 = .ok (.getfield 37, 3) := by decide +kernel
theorem dX6_take_54 : decode cX6_take 54 = .ok (.getfield 150, 3) := by decide +kernel
theorem dX6_take_57 : decode cX6_take 57 = .ok (.ireturn, 1) := by decide +kernel
set_option maxRecDepth 20000 in
theorem ggX6_least_X3_isStart : GoodIn wsX6_least wsX3_isStart := goodIn_r _ [13, 14, 15, 16, 12, 17, 18, 19, 20, 21, 111, 112, 113, 114, 115, 116] (by decide +kernel) (by decide +kernel)
set_option maxRecDepth 20000 in
theorem gX6_least_X3_isStart : GoodIn wsX6_least (wsV RX6 121 RX3 yX3_isStart wsX3_isStart) := goodIn_app (goodIn_of _ (by decide +kernel)) ggX6_least_X3_isStart
set_option maxRecDepth 20000 in
theorem ggX6_least_X6_within : GoodIn wsX6_least wsX6_within := goodIn_r _ [21] (by decide +kernel) (by decide +kernel)
set_option maxRecDepth 20000 in
theorem gX6_least_X6_within : GoodIn wsX6_least (va_wsS RX6 59 yX6_within wsX6_within) := goodIn_app (goodIn_of _ (by decide +kernel)) ggX6_least_X6_within
set_option maxRecDepth 20000 in
theorem ggX6_least_J7_fill_53178 : GoodIn wsX6_least wsJ7_fill_53178 := goodIn_r _ [26] (by decide +kernel) (by decide +kernel)
set_option maxRecDepth 20000 in
theorem gX6_least_J7_fill_53178 : GoodIn wsX6_least (va_wsS RX6 67 yJ7_fill_53178 wsJ7_fill_53178) := goodIn_app (goodIn_of _ (by decide +kernel)) ggX6_least_J7_fill_53178
set_option maxRecDepth 20000 in
theorem ggX6_least_X5_run : GoodIn wsX6_least wsX5_run := goodIn_r _ [31, 32, 33, 34, 35, 36, 37, 38, 39, 40, 41, 42, 43, 44, 45, 46, 47, 48, 49, 50, 51, 52, 53, 30, 54, 55, 15, 16, 12, 17, 18, 56, 57, 58, 59, 60, 61, 62, 63, 64, 65, 66, 67, 68, 69, 70, 71, 72, 73, 74, 19, 20, 21, 75, 76, 77, 78, 79, 80, 81, 82, 83, 84, 85, 86, 87, 88, 89, 90, 91, 92, 14, 101, 102, 103, 104, 105, 106, 107, 108, 109, 110, 111, 112, 113, 114, 115, 116] (by decide +kernel) (by decide +kernel)
set_option maxRecDepth 20000 in
theorem gX6_least_X5_run : GoodIn wsX6_least (wsV RX6 168 RX5 yX5_run wsX5_run) := goodIn_app (goodIn_of _ (by decide +kernel)) ggX6_least_X5_run
theorem dX6_least_0 : decode cX6_least 0 = .ok (.aload_n 0, 1) := by decide +kernel
theorem dX6_least_1 : decode cX6_least 1 = .ok (.getfield 10, 3) := by decide +kernel
theorem dX6_least_4 : decode cX6_least 4 = .ok (.iload_n 1, 1) := by decide +kernel
theorem dX6_least_5 : decode cX6_least 5 = .ok (.invokevirtual 121, 3) := by decide +kernel
theorem dX6_least_8 : decode cX6_least 8 = .ok (.ifCond .eq 13, 3) := by decide +kernel
theorem dX6_least_11 : decode cX6_least 11 = .ok (.iload_n 2, 1) := by decide +kernel
theorem dX6_least_12 : decode cX6_least 12 = .ok (.iconst 0, 1) := by decide +kernel
theorem dX6_least_13 : decode cX6_least 13 = .ok (.bipush 90, 2) := by decide +kernel
theorem dX6_least_15 : decode cX6_least 15 = .ok (.invokestatic 59, 3) := by decide +kernel
theorem dX6_least_18 : decode cX6_least 18 = .ok (.ifCond .ne 7, 3) := by decide +kernel
theorem dX6_least_21 : decode cX6_least 21 = .ok (.sipush (-1002), 3) := by decide +kernel
theorem dX6_least_24 : decode cX6_least 24 = .ok (.ireturn, 1) := by decide +kernel
theorem dX6_least_25 : decode cX6_least 25 = .ok (.aload_n 0, 1) := by decide +kernel
theorem dX6_least_26 : decode cX6_least 26 = .ok (.getfield 37, 3) := by decide +kernel
theorem dX6_least_29 : decode cX6_least 29 = .ok (.getfield 165, 3) := by decide +kernel
theorem dX6_least_32 : decode cX6_least 32 = .ok (.aload_n 0, 1) := by decide +kernel
theorem dX6_least_33 : decode cX6_least 33 = .ok (.getfield 19, 3) := by decide +kernel
theorem dX6_least_36 : decode cX6_least 36 = .ok (.getfield 101, 3) := by decide +kernel
theorem dX6_least_39 : decode cX6_least 39 = .ok (.putfield 101, 3) := by decide +kernel
theorem dX6_least_42 : decode cX6_least 42 = .ok (.iconst 0, 1) := by decide +kernel
theorem dX6_least_43 : decode cX6_least 43 = .ok (.istore_n 3, 1) := by decide +kernel
theorem dX6_least_44 : decode cX6_least 44 = .ok (.iload_n 3, 1) := by decide +kernel
theorem dX6_least_45 : decode cX6_least 45 = .ok (.bipush 20, 2) := by decide +kernel
theorem dX6_least_47 : decode cX6_least 47 = .ok (.if_icmp .gt 52, 3) := by decide +kernel
theorem dX6_least_50 : decode cX6_least 50 = .ok (.aload_n 0, 1) := by decide +kernel
theorem dX6_least_51 : decode cX6_least 51 = .ok (.getfield 37, 3) := by decide +kernel
theorem dX6_least_54 : decode cX6_least 54 = .ok (.getfield 165, 3) := by decide +kernel
theorem dX6_least_57 : decode cX6_least 57 = .ok (.getfield 98, 3) := by decide +kernel
theorem dX6_least_60 : decode cX6_least 60 = .ok (.iload_n 3, 1) := by decide +kernel
theorem dX6_least_61 : decode cX6_least 61 = .ok (.invokestatic 67, 3) := by decide +kernel
theorem dX6_least_64 : decode cX6_least 64 = .ok (.aload_n 0, 1) := by decide +kernel
theorem dX6_least_65 : decode cX6_least 65 = .ok (.getfield 37, 3) := by decide +kernel
theorem dX6_least_68 : decode cX6_least 68 = .ok (.aload_n 0, 1) := by decide +kernel
theorem dX6_least_69 : decode cX6_least 69 = .ok (.getfield 10, 3) := by decide +kernel
theorem dX6_least_72 : decode cX6_least 72 = .ok (.aload_n 0, 1) := by decide +kernel
theorem dX6_least_73 : decode cX6_least 73 = .ok (.getfield 55, 3) := by decide +kernel
theorem dX6_least_76 : decode cX6_least 76 = .ok (.iload_n 1, 1) := by decide +kernel
theorem dX6_least_77 : decode cX6_least 77 = .ok (.invokevirtual 168, 3) := by decide +kernel
theorem dX6_least_80 : decode cX6_least 80 = .ok (.aload_n 0, 1) := by decide +kernel
theorem dX6_least_81 : decode cX6_least 81 = .ok (.getfield 37, 3) := by decide +kernel
theorem dX6_least_84 : decode cX6_least 84 = .ok (.getfield 150, 3) := by decide +kernel
theorem dX6_least_87 : decode cX6_least 87 = .ok (.iload_n 2, 1) := by decide +kernel
theorem dX6_least_88 : decode cX6_least 88 = .ok (.if_icmp .lt 5, 3) := by decide +kernel
theorem dX6_least_91 : decode cX6_least 91 = .ok (.iload_n 3, 1) := by decide +kernel
theorem dX6_least_92 : decode cX6_least 92 = .ok (.ireturn, 1) := by decide +kernel
theorem dX6_least_93 : decode cX6_least 93 = .ok (.iinc 3 1, 3) := by decide +kernel
theorem dX6_least_96 : decode cX6_least 96 = .ok (.goto (-52), 3) := by decide +kernel
theorem dX6_least_99 : decode cX6_least 99 = .ok (.iconst (-1), 1) := by decide +kernel
theorem dX6_least_100 : decode cX6_least 100 = .ok (.ireturn, 1) := by decide +kernel
set_option maxRecDepth 20000 in
theorem ggX6_live_X6_isRule : GoodIn wsX6_live wsX6_isRule := goodIn_r _ [9, 10, 11, 8, 12] (by decide +kernel) (by decide +kernel)
set_option maxRecDepth 20000 in
theorem gX6_live_X6_isRule : GoodIn wsX6_live (va_wsS RX6 172 yX6_isRule wsX6_isRule) := goodIn_app (goodIn_of _ (by decide +kernel)) ggX6_live_X6_isRule
set_option maxRecDepth 20000 in
theorem ggX6_live_X3_isStart : GoodIn wsX6_live wsX3_isStart := goodIn_r _ [17, 18, 19, 20, 16, 21, 22, 11, 8, 12, 125, 126, 127, 128, 129, 130] (by decide +kernel) (by decide +kernel)
set_option maxRecDepth 20000 in
theorem gX6_live_X3_isStart : GoodIn wsX6_live (wsV RX6 121 RX3 yX3_isStart wsX3_isStart) := goodIn_app (goodIn_of _ (by decide +kernel)) ggX6_live_X3_isStart
set_option maxRecDepth 20000 in
theorem ggX6_live_X6_within : GoodIn wsX6_live wsX6_within := goodIn_r _ [12] (by decide +kernel) (by decide +kernel)
set_option maxRecDepth 20000 in
theorem gX6_live_X6_within : GoodIn wsX6_live (va_wsS RX6 59 yX6_within wsX6_within) := goodIn_app (goodIn_of _ (by decide +kernel)) ggX6_live_X6_within
set_option maxRecDepth 20000 in
theorem ggX6_live_X6_runRule : GoodIn wsX6_live wsX6_runRule := goodIn_r _ [26, 2, 27, 1, 28, 29, 30, 31, 32, 33, 34, 35, 36, 37, 38, 39, 40, 41, 42, 43, 44, 45, 46, 47, 48, 49, 50, 51, 52, 53, 54, 55, 56, 57, 58, 59, 60, 61, 62, 63, 64, 65, 66, 67, 68, 16, 69, 70, 71, 72, 73, 74, 75, 76, 8, 77, 78, 79, 80, 81, 82, 83, 84, 85, 86, 87, 88, 89, 90, 91, 92, 93, 94, 95, 96, 97, 98, 99, 100, 101, 102, 103, 104, 105, 110, 111, 112, 113, 114, 115, 116, 117, 118, 119, 120, 121, 122, 123, 124, 131, 132, 125, 126, 127, 128, 129, 130] (by decide +kernel) (by decide +kernel)
set_option maxRecDepth 20000 in
theorem gX6_live_X6_runRule : GoodIn wsX6_live (wsV RX6 175 RX6 yX6_runRule wsX6_runRule) := goodIn_app (goodIn_of _ (by decide +kernel)) ggX6_live_X6_runRule
set_option maxRecDepth 20000 in
theorem ggX6_live_X3_savedFrom : GoodIn wsX6_live wsX3_savedFrom := goodIn_r _ [109, 82, 18, 19, 20, 16, 21, 22, 94, 95, 96, 125, 126, 127, 128, 129, 130] (by decide +kernel) (by decide +kernel)
set_option maxRecDepth 20000 in
theorem gX6_live_X3_savedFrom : GoodIn wsX6_live (wsV RX6 135 RX3 yX3_savedFrom wsX3_savedFrom) := goodIn_app (goodIn_of _ (by decide +kernel)) ggX6_live_X3_savedFrom
theorem dX6_live_0 : decode cX6_live 0 = .ok (.iload_n 1, 1) := by decide +kernel
theorem dX6_live_1 : decode cX6_live 1 = .ok (.invokestatic 172, 3) := by decide +kernel
theorem dX6_live_4 : decode cX6_live 4 = .ok (.ifCond .eq 23, 3) := by decide +kernel
theorem dX6_live_7 : decode cX6_live 7 = .ok (.aload_n 0, 1) := by decide +kernel
theorem dX6_live_8 : decode cX6_live 8 = .ok (.getfield 10, 3) := by decide +kernel
theorem dX6_live_11 : decode cX6_live 11 = .ok (.iload_n 2, 1) := by decide +kernel
theorem dX6_live_12 : decode cX6_live 12 = .ok (.invokevirtual 121, 3) := by decide +kernel
theorem dX6_live_15 : decode cX6_live 15 = .ok (.ifCond .eq 12, 3) := by decide +kernel
theorem dX6_live_18 : decode cX6_live 18 = .ok (.iload_n 3, 1) := by decide +kernel
theorem dX6_live_19 : decode cX6_live 19 = .ok (.iconst 0, 1) := by decide +kernel
theorem dX6_live_20 : decode cX6_live 20 = .ok (.iconst 2, 1) := by decide +kernel
theorem dX6_live_21 : decode cX6_live 21 = .ok (.invokestatic 59, 3) := by decide +kernel
theorem dX6_live_24 : decode cX6_live 24 = .ok (.ifCond .ne 7, 3) := by decide +kernel
theorem dX6_live_27 : decode cX6_live 27 = .ok (.sipush (-1002), 3) := by decide +kernel
theorem dX6_live_30 : decode cX6_live 30 = .ok (.ireturn, 1) := by decide +kernel
theorem dX6_live_31 : decode cX6_live 31 = .ok (.aload_n 0, 1) := by decide +kernel
theorem dX6_live_32 : decode cX6_live 32 = .ok (.iload_n 1, 1) := by decide +kernel
theorem dX6_live_33 : decode cX6_live 33 = .ok (.iload_n 2, 1) := by decide +kernel
theorem dX6_live_34 : decode cX6_live 34 = .ok (.invokevirtual 175, 3) := by decide +kernel
theorem dX6_live_37 : decode cX6_live 37 = .ok (.iload_n 3, 1) := by decide +kernel
theorem dX6_live_38 : decode cX6_live 38 = .ok (.lookupswitch 49 #[(0, 26), (1, 41)], 26) := by decide +kernel
theorem dX6_live_64 : decode cX6_live 64 = .ok (.aload_n 0, 1) := by decide +kernel
theorem dX6_live_65 : decode cX6_live 65 = .ok (.getfield 10, 3) := by decide +kernel
theorem dX6_live_68 : decode cX6_live 68 = .ok (.aload_n 0, 1) := by decide +kernel
theorem dX6_live_69 : decode cX6_live 69 = .ok (.getfield 30, 3) := by decide +kernel
theorem dX6_live_72 : decode cX6_live 72 = .ok (.getfield 132, 3) := by decide +kernel
theorem dX6_live_75 : decode cX6_live 75 = .ok (.invokevirtual 135, 3) := by decide +kernel
theorem dX6_live_78 : decode cX6_live 78 = .ok (.ireturn, 1) := by decide +kernel
theorem dX6_live_79 : decode cX6_live 79 = .ok (.aload_n 0, 1) := by decide +kernel
theorem dX6_live_80 : decode cX6_live 80 = .ok (.getfield 30, 3) := by decide +kernel
theorem dX6_live_83 : decode cX6_live 83 = .ok (.getfield 138, 3) := by decide +kernel
theorem dX6_live_86 : decode cX6_live 86 = .ok (.ireturn, 1) := by decide +kernel
theorem dX6_live_87 : decode cX6_live 87 = .ok (.aload_n 0, 1) := by decide +kernel
theorem dX6_live_88 : decode cX6_live 88 = .ok (.getfield 30, 3) := by decide +kernel
theorem dX6_live_91 : decode cX6_live 91 = .ok (.getfield 141, 3) := by decide +kernel
theorem dX6_live_94 : decode cX6_live 94 = .ok (.ireturn, 1) := by decide +kernel
set_option maxRecDepth 20000 in
theorem ggX6_share_X6_isRule : GoodIn wsX6_share wsX6_isRule := goodIn_r _ [7, 8, 9, 6, 10] (by decide +kernel) (by decide +kernel)
set_option maxRecDepth 20000 in
theorem gX6_share_X6_isRule : GoodIn wsX6_share (va_wsS RX6 172 yX6_isRule wsX6_isRule) := goodIn_app (goodIn_of _ (by decide +kernel)) ggX6_share_X6_isRule
set_option maxRecDepth 20000 in
theorem ggX6_share_X3_isStart : GoodIn wsX6_share wsX3_isStart := goodIn_r _ [15, 16, 17, 18, 14, 19, 20, 9, 6, 10, 186, 187, 188, 189, 190, 191] (by decide +kernel) (by decide +kernel)
set_option maxRecDepth 20000 in
theorem gX6_share_X3_isStart : GoodIn wsX6_share (wsV RX6 121 RX3 yX3_isStart wsX3_isStart) := goodIn_app (goodIn_of _ (by decide +kernel)) ggX6_share_X3_isStart
set_option maxRecDepth 20000 in
theorem ggX6_share_X6_within : GoodIn wsX6_share wsX6_within := goodIn_r _ [10] (by decide +kernel) (by decide +kernel)
set_option maxRecDepth 20000 in
theorem gX6_share_X6_within : GoodIn wsX6_share (va_wsS RX6 59 yX6_within wsX6_within) := goodIn_app (goodIn_of _ (by decide +kernel)) ggX6_share_X6_within
set_option maxRecDepth 20000 in
theorem ggX6_share_X6_savedByRule : GoodIn wsX6_share wsX6_savedByRule := goodIn_r _ [24, 1, 25, 26, 27, 28, 29, 6, 30, 31, 32, 33, 34, 35, 36, 37, 38, 39, 40, 41, 42, 43, 44, 45, 46, 47, 48, 49, 50, 51, 52, 53, 54, 55, 56, 57, 58, 59, 60, 61, 62, 63, 64, 65, 66, 67, 68, 69, 70, 71, 72, 14, 73, 74, 75, 76, 77, 78, 79, 80, 81, 82, 83, 84, 85, 86, 87, 88, 89, 90, 91, 92, 93, 94, 95, 96, 97, 98, 99, 100, 101, 102, 103, 104, 105, 106, 107, 108, 109, 110, 111, 112, 113, 16, 17, 18, 19, 20, 170, 171, 172, 173, 174, 175, 176, 177, 192, 193, 194, 195, 196, 197, 198, 199, 200, 186, 187, 188, 189, 190, 191] (by decide +kernel) (by decide +kernel)
set_option maxRecDepth 20000 in
theorem gX6_share_X6_savedByRule : GoodIn wsX6_share (wsV RX6 178 RX6 yX6_savedByRule wsX6_savedByRule) := goodIn_app (goodIn_of _ (by decide +kernel)) ggX6_share_X6_savedByRule
set_option maxRecDepth 20000 in
theorem ggX6_share_X6_seekBest : GoodIn wsX6_share wsX6_seekBest := goodIn_r _ [117, 2, 118, 31, 1, 119, 120, 121, 122, 55, 123, 64, 124, 125, 126, 127, 65, 128, 129, 130, 131, 132, 133, 134, 135, 136, 137, 138, 53, 54, 56, 57, 58, 59, 60, 61, 62, 63, 139, 140, 141, 142, 143, 17, 18, 14, 19, 20, 144, 95, 96, 97, 74, 98, 99, 100, 145, 146, 147, 148, 149, 150, 151, 152, 153, 154, 155, 9, 6, 10, 156, 76, 77, 78, 79, 80, 81, 157, 158, 159, 160, 161, 162, 163, 111, 112, 113, 86, 16, 170, 171, 172, 173, 174, 175, 176, 177, 178, 179, 180, 181, 182, 183, 184, 185, 199, 200, 186, 187, 188, 189, 190, 191] (by decide +kernel) (by decide +kernel)
set_option maxRecDepth 20000 in
theorem gX6_share_X6_seekBest : GoodIn wsX6_share (wsV RX6 147 RX6 yX6_seekBest wsX6_seekBest) := goodIn_app (goodIn_of _ (by decide +kernel)) ggX6_share_X6_seekBest
set_option maxRecDepth 20000 in
theorem ggX6_share_X6_fractionPart : GoodIn wsX6_share wsX6_fractionPart := goodIn_r _ [166, 167, 168, 6, 169] (by decide +kernel) (by decide +kernel)
set_option maxRecDepth 20000 in
theorem gX6_share_X6_fractionPart : GoodIn wsX6_share (va_wsS RX6 181 yX6_fractionPart wsX6_fractionPart) := goodIn_app (goodIn_of _ (by decide +kernel)) ggX6_share_X6_fractionPart
theorem dX6_share_0 : decode cX6_share 0 = .ok (.iload_n 1, 1) := by decide +kernel
theorem dX6_share_1 : decode cX6_share 1 = .ok (.invokestatic 172, 3) := by decide +kernel
theorem dX6_share_4 : decode cX6_share 4 = .ok (.ifCond .eq 23, 3) := by decide +kernel
theorem dX6_share_7 : decode cX6_share 7 = .ok (.aload_n 0, 1) := by decide +kernel
theorem dX6_share_8 : decode cX6_share 8 = .ok (.getfield 10, 3) := by decide +kernel
theorem dX6_share_11 : decode cX6_share 11 = .ok (.iload_n 2, 1) := by decide +kernel
theorem dX6_share_12 : decode cX6_share 12 = .ok (.invokevirtual 121, 3) := by decide +kernel
theorem dX6_share_15 : decode cX6_share 15 = .ok (.ifCond .eq 12, 3) := by decide +kernel
theorem dX6_share_18 : decode cX6_share 18 = .ok (.iload_n 3, 1) := by decide +kernel
theorem dX6_share_19 : decode cX6_share 19 = .ok (.iconst 0, 1) := by decide +kernel
theorem dX6_share_20 : decode cX6_share 20 = .ok (.iconst 1, 1) := by decide +kernel
theorem dX6_share_21 : decode cX6_share 21 = .ok (.invokestatic 59, 3) := by decide +kernel
theorem dX6_share_24 : decode cX6_share 24 = .ok (.ifCond .ne 7, 3) := by decide +kernel
theorem dX6_share_27 : decode cX6_share 27 = .ok (.sipush (-1002), 3) := by decide +kernel
theorem dX6_share_30 : decode cX6_share 30 = .ok (.ireturn, 1) := by decide +kernel
theorem dX6_share_31 : decode cX6_share 31 = .ok (.aload_n 0, 1) := by decide +kernel
theorem dX6_share_32 : decode cX6_share 32 = .ok (.iload_n 1, 1) := by decide +kernel
theorem dX6_share_33 : decode cX6_share 33 = .ok (.iload_n 2, 1) := by decide +kernel
theorem dX6_share_34 : decode cX6_share 34 = .ok (.invokevirtual 178, 3) := by decide +kernel
theorem dX6_share_37 : decode cX6_share 37 = .ok (.istore 4, 2) := by decide +kernel
theorem dX6_share_39 : decode cX6_share 39 = .ok (.aload_n 0, 1) := by decide +kernel
theorem dX6_share_40 : decode cX6_share 40 = .ok (.iload_n 2, 1) := by decide +kernel
theorem dX6_share_41 : decode cX6_share 41 = .ok (.invokevirtual 147, 3) := by decide +kernel
theorem dX6_share_44 : decode cX6_share 44 = .ok (.aload_n 0, 1) := by decide +kernel
theorem dX6_share_45 : decode cX6_share 45 = .ok (.getfield 37, 3) := by decide +kernel
theorem dX6_share_48 : decode cX6_share 48 = .ok (.getfield 150, 3) := by decide +kernel
theorem dX6_share_51 : decode cX6_share 51 = .ok (.ifCond .gt 5, 3) := by decide +kernel
theorem dX6_share_54 : decode cX6_share 54 = .ok (.iconst 1, 1) := by decide +kernel
theorem dX6_share_55 : decode cX6_share 55 = .ok (.ireturn, 1) := by decide +kernel
theorem dX6_share_56 : decode cX6_share 56 = .ok (.iload 4, 2) := by decide +kernel
theorem dX6_share_58 : decode cX6_share 58 = .ok (.i2l, 1) := by decide +kernel
theorem dX6_share_59 : decode cX6_share 59 = .ok (.aload_n 0, 1) := by decide +kernel
theorem dX6_share_60 : decode cX6_share 60 = .ok (.getfield 37, 3) := by decide +kernel
theorem dX6_share_63 : decode cX6_share 63 = .ok (.getfield 150, 3) := by decide +kernel
theorem dX6_share_66 : decode cX6_share 66 = .ok (.i2l, 1) := by decide +kernel
theorem dX6_share_67 : decode cX6_share 67 = .ok (.iload_n 3, 1) := by decide +kernel
theorem dX6_share_68 : decode cX6_share 68 = .ok (.invokestatic 181, 3) := by decide +kernel
theorem dX6_share_71 : decode cX6_share 71 = .ok (.l2i, 1) := by decide +kernel
theorem dX6_share_72 : decode cX6_share 72 = .ok (.ireturn, 1) := by decide +kernel
set_option maxRecDepth 20000 in
theorem ggX6_worst_X6_isRule : GoodIn wsX6_worst wsX6_isRule := goodIn_r _ [8, 9, 10, 7, 11] (by decide +kernel) (by decide +kernel)
set_option maxRecDepth 20000 in
theorem gX6_worst_X6_isRule : GoodIn wsX6_worst (va_wsS RX6 172 yX6_isRule wsX6_isRule) := goodIn_app (goodIn_of _ (by decide +kernel)) ggX6_worst_X6_isRule
set_option maxRecDepth 20000 in
theorem ggX6_worst_X6_savedByRule : GoodIn wsX6_worst wsX6_savedByRule := goodIn_r _ [15, 1, 16, 17, 18, 19, 20, 7, 21, 22, 23, 24, 25, 26, 27, 28, 29, 30, 31, 32, 33, 34, 35, 36, 37, 38, 39, 40, 41, 42, 43, 44, 45, 46, 47, 48, 49, 50, 51, 52, 53, 54, 55, 56, 57, 58, 59, 60, 61, 62, 63, 64, 65, 66, 67, 68, 69, 70, 71, 72, 73, 74, 75, 76, 77, 78, 79, 80, 81, 82, 83, 84, 85, 86, 87, 88, 89, 90, 91, 92, 93, 94, 95, 96, 97, 98, 99, 100, 101, 102, 103, 104, 105, 106, 107, 108, 109, 110, 161, 162, 163, 164, 165, 166, 167, 168, 183, 184, 185, 186, 187, 188, 189, 190, 191, 169, 170, 171, 172, 173, 174] (by decide +kernel) (by decide +kernel)
set_option maxRecDepth 20000 in
theorem gX6_worst_X6_savedByRule : GoodIn wsX6_worst (wsV RX6 178 RX6 yX6_savedByRule wsX6_savedByRule) := goodIn_app (goodIn_of _ (by decide +kernel)) ggX6_worst_X6_savedByRule
set_option maxRecDepth 20000 in
theorem ggX6_worst_X6_seekBest : GoodIn wsX6_worst wsX6_seekBest := goodIn_r _ [114, 3, 115, 22, 1, 116, 117, 118, 119, 46, 120, 55, 121, 122, 123, 124, 56, 125, 126, 127, 128, 129, 130, 131, 132, 133, 134, 135, 44, 45, 47, 48, 49, 50, 51, 52, 53, 54, 136, 137, 138, 139, 140, 107, 108, 64, 109, 110, 141, 87, 88, 89, 66, 90, 91, 92, 142, 143, 144, 145, 146, 147, 148, 149, 150, 151, 152, 10, 7, 11, 153, 68, 69, 70, 71, 72, 73, 154, 155, 156, 157, 158, 159, 160, 103, 104, 105, 78, 106, 161, 162, 163, 164, 165, 166, 167, 168, 175, 176, 177, 178, 179, 180, 181, 182, 190, 191, 169, 170, 171, 172, 173, 174] (by decide +kernel) (by decide +kernel)
set_option maxRecDepth 20000 in
theorem gX6_worst_X6_seekBest : GoodIn wsX6_worst (wsV RX6 147 RX6 yX6_seekBest wsX6_seekBest) := goodIn_app (goodIn_of _ (by decide +kernel)) ggX6_worst_X6_seekBest
theorem dX6_worst_0 : decode cX6_worst 0 = .ok (.iload_n 1, 1) := by decide +kernel
theorem dX6_worst_1 : decode cX6_worst 1 = .ok (.invokestatic 172, 3) := by decide +kernel
theorem dX6_worst_4 : decode cX6_worst 4 = .ok (.ifCond .ne 7, 3) := by decide +kernel
theorem dX6_worst_7 : decode cX6_worst 7 = .ok (.sipush (-1002), 3) := by decide +kernel
theorem dX6_worst_10 : decode cX6_worst 10 = .ok (.ireturn, 1) := by decide +kernel
theorem dX6_worst_11 : decode cX6_worst 11 = .ok (.iconst 0, 1) := by decide +kernel
theorem dX6_worst_12 : decode cX6_worst 12 = .ok (.istore_n 2, 1) := by decide +kernel
theorem dX6_worst_13 : decode cX6_worst 13 = .ok (.iconst 0, 1) := by decide +kernel
theorem dX6_worst_14 : decode cX6_worst 14 = .ok (.istore_n 3, 1) := by decide +kernel
theorem dX6_worst_15 : decode cX6_worst 15 = .ok (.iconst 0, 1) := by decide +kernel
theorem dX6_worst_16 : decode cX6_worst 16 = .ok (.istore 4, 2) := by decide +kernel
theorem dX6_worst_18 : decode cX6_worst 18 = .ok (.iconst 0, 1) := by decide +kernel
theorem dX6_worst_19 : decode cX6_worst 19 = .ok (.istore 5, 2) := by decide +kernel
theorem dX6_worst_21 : decode cX6_worst 21 = .ok (.iload 5, 2) := by decide +kernel
theorem dX6_worst_23 : decode cX6_worst 23 = .ok (.aload_n 0, 1) := by decide +kernel
theorem dX6_worst_24 : decode cX6_worst 24 = .ok (.getfield 10, 3) := by decide +kernel
theorem dX6_worst_27 : decode cX6_worst 27 = .ok (.getfield 104, 3) := by decide +kernel
theorem dX6_worst_30 : decode cX6_worst 30 = .ok (.if_icmp .ge 75, 3) := by decide +kernel
theorem dX6_worst_33 : decode cX6_worst 33 = .ok (.aload_n 0, 1) := by decide +kernel
theorem dX6_worst_34 : decode cX6_worst 34 = .ok (.iload_n 1, 1) := by decide +kernel
theorem dX6_worst_35 : decode cX6_worst 35 = .ok (.iconst 1, 1) := by decide +kernel
theorem dX6_worst_36 : decode cX6_worst 36 = .ok (.iload 5, 2) := by decide +kernel
theorem dX6_worst_38 : decode cX6_worst 38 = .ok (.ishl, 1) := by decide +kernel
theorem dX6_worst_39 : decode cX6_worst 39 = .ok (.invokevirtual 178, 3) := by decide +kernel
theorem dX6_worst_42 : decode cX6_worst 42 = .ok (.istore 6, 2) := by decide +kernel
theorem dX6_worst_44 : decode cX6_worst 44 = .ok (.aload_n 0, 1) := by decide +kernel
theorem dX6_worst_45 : decode cX6_worst 45 = .ok (.iconst 1, 1) := by decide +kernel
theorem dX6_worst_46 : decode cX6_worst 46 = .ok (.iload 5, 2) := by decide +kernel
theorem dX6_worst_48 : decode cX6_worst 48 = .ok (.ishl, 1) := by decide +kernel
theorem dX6_worst_49 : decode cX6_worst 49 = .ok (.invokevirtual 147, 3) := by decide +kernel
theorem dX6_worst_52 : decode cX6_worst 52 = .ok (.aload_n 0, 1) := by decide +kernel
theorem dX6_worst_53 : decode cX6_worst 53 = .ok (.getfield 37, 3) := by decide +kernel
theorem dX6_worst_56 : decode cX6_worst 56 = .ok (.getfield 150, 3) := by decide +kernel
theorem dX6_worst_59 : decode cX6_worst 59 = .ok (.istore 7, 2) := by decide +kernel
theorem dX6_worst_61 : decode cX6_worst 61 = .ok (.iload 7, 2) := by decide +kernel
theorem dX6_worst_63 : decode cX6_worst 63 = .ok (.ifCond .gt 9, 3) := by decide +kernel
theorem dX6_worst_66 : decode cX6_worst 66 = .ok (.iconst 1, 1) := by decide +kernel
theorem dX6_worst_67 : decode cX6_worst 67 = .ok (.istore 6, 2) := by decide +kernel
theorem dX6_worst_69 : decode cX6_worst 69 = .ok (.iconst 1, 1) := by decide +kernel
theorem dX6_worst_70 : decode cX6_worst 70 = .ok (.istore 7, 2) := by decide +kernel
theorem dX6_worst_72 : decode cX6_worst 72 = .ok (.iload 5, 2) := by decide +kernel
theorem dX6_worst_74 : decode cX6_worst 74 = .ok (.ifCond .eq 15, 3) := by decide +kernel
theorem dX6_worst_77 : decode cX6_worst 77 = .ok (.iload 6, 2) := by decide +kernel
theorem dX6_worst_79 : decode cX6_worst 79 = .ok (.iload 4, 2) := by decide +kernel
theorem dX6_worst_81 : decode cX6_worst 81 = .ok (.imul, 1) := by decide +kernel
theorem dX6_worst_82 : decode cX6_worst 82 = .ok (.iload_n 3, 1) := by decide +kernel
theorem dX6_worst_83 : decode cX6_worst 83 = .ok (.iload 7, 2) := by decide +kernel
theorem dX6_worst_85 : decode cX6_worst 85 = .ok (.imul, 1) := by decide +kernel
theorem dX6_worst_86 : decode cX6_worst 86 = .ok (.if_icmp .ge 13, 3) := by decide +kernel
theorem dX6_worst_89 : decode cX6_worst 89 = .ok (.iload 5, 2) := by decide +kernel
theorem dX6_worst_91 : decode cX6_worst 91 = .ok (.istore_n 2, 1) := by decide +kernel
theorem dX6_worst_92 : decode cX6_worst 92 = .ok (.iload 6, 2) := by decide +kernel
theorem dX6_worst_94 : decode cX6_worst 94 = .ok (.istore_n 3, 1) := by decide +kernel
theorem dX6_worst_95 : decode cX6_worst 95 = .ok (.iload 7, 2) := by decide +kernel
theorem dX6_worst_97 : decode cX6_worst 97 = .ok (.istore 4, 2) := by decide +kernel
theorem dX6_worst_99 : decode cX6_worst 99 = .ok (.iinc 5 1, 3) := by decide +kernel
theorem dX6_worst_102 : decode cX6_worst 102 = .ok (.goto (-81), 3) := by decide +kernel
theorem dX6_worst_105 : decode cX6_worst 105 = .ok (.iload_n 2, 1) := by decide +kernel
theorem dX6_worst_106 : decode cX6_worst 106 = .ok (.ireturn, 1) := by decide +kernel
set_option maxRecDepth 20000 in
theorem ggX6_mean_X6_isRule : GoodIn wsX6_mean wsX6_isRule := goodIn_r _ [5, 6, 7, 4, 8] (by decide +kernel) (by decide +kernel)
set_option maxRecDepth 20000 in
theorem gX6_mean_X6_isRule : GoodIn wsX6_mean (va_wsS RX6 172 yX6_isRule wsX6_isRule) := goodIn_app (goodIn_of _ (by decide +kernel)) ggX6_mean_X6_isRule
set_option maxRecDepth 20000 in
theorem ggX6_mean_X3_isStart : GoodIn wsX6_mean wsX3_isStart := goodIn_r _ [13, 14, 15, 16, 12, 17, 18, 7, 4, 8, 128, 129, 130, 131, 132, 133] (by decide +kernel) (by decide +kernel)
set_option maxRecDepth 20000 in
theorem gX6_mean_X3_isStart : GoodIn wsX6_mean (wsV RX6 121 RX3 yX3_isStart wsX3_isStart) := goodIn_app (goodIn_of _ (by decide +kernel)) ggX6_mean_X3_isStart
set_option maxRecDepth 20000 in
theorem ggX6_mean_X6_within : GoodIn wsX6_mean wsX6_within := goodIn_r _ [8] (by decide +kernel) (by decide +kernel)
set_option maxRecDepth 20000 in
theorem gX6_mean_X6_within : GoodIn wsX6_mean (va_wsS RX6 59 yX6_within wsX6_within) := goodIn_app (goodIn_of _ (by decide +kernel)) ggX6_mean_X6_within
set_option maxRecDepth 20000 in
theorem ggX6_mean_X6_holds : GoodIn wsX6_mean wsX6_holds := goodIn_r _ [21] (by decide +kernel) (by decide +kernel)
set_option maxRecDepth 20000 in
theorem gX6_mean_X6_holds : GoodIn wsX6_mean (va_wsS RX6 185 yX6_holds wsX6_holds) := goodIn_app (goodIn_of _ (by decide +kernel)) ggX6_mean_X6_holds
set_option maxRecDepth 20000 in
theorem ggX6_mean_X6_savedByRule : GoodIn wsX6_mean wsX6_savedByRule := goodIn_r _ [25, 1, 26, 27, 28, 29, 30, 4, 31, 32, 33, 34, 35, 36, 37, 38, 39, 40, 41, 42, 43, 44, 45, 46, 47, 48, 49, 50, 51, 52, 53, 54, 55, 56, 57, 58, 59, 60, 61, 62, 63, 64, 65, 66, 67, 68, 69, 70, 71, 72, 73, 12, 74, 75, 76, 77, 78, 79, 80, 20, 21, 81, 82, 83, 84, 85, 86, 87, 88, 89, 90, 91, 92, 93, 94, 95, 96, 97, 98, 99, 100, 101, 102, 103, 104, 105, 106, 107, 108, 109, 110, 111, 112, 14, 15, 16, 17, 18, 120, 121, 122, 123, 124, 125, 126, 127, 134, 135, 136, 137, 138, 139, 140, 141, 142, 128, 129, 130, 131, 132, 133] (by decide +kernel) (by decide +kernel)
set_option maxRecDepth 20000 in
theorem gX6_mean_X6_savedByRule : GoodIn wsX6_mean (wsV RX6 178 RX6 yX6_savedByRule wsX6_savedByRule) := goodIn_app (goodIn_of _ (by decide +kernel)) ggX6_mean_X6_savedByRule
set_option maxRecDepth 20000 in
theorem ggX6_mean_J6_bitCount_0f7a4 : GoodIn wsX6_mean wsJ6_bitCount_0f7a4 := goodIn_r _ [89, 90, 91, 92] (by decide +kernel) (by decide +kernel)
set_option maxRecDepth 20000 in
theorem gX6_mean_J6_bitCount_0f7a4 : GoodIn wsX6_mean (va_wsS RX6 188 yJ6_bitCount_0f7a4 wsJ6_bitCount_0f7a4) := goodIn_app (goodIn_of _ (by decide +kernel)) ggX6_mean_J6_bitCount_0f7a4
set_option maxRecDepth 20000 in
theorem ggX6_mean_X6_fractionPart : GoodIn wsX6_mean wsX6_fractionPart := goodIn_r _ [116, 117, 118, 4, 119] (by decide +kernel) (by decide +kernel)
set_option maxRecDepth 20000 in
theorem gX6_mean_X6_fractionPart : GoodIn wsX6_mean (va_wsS RX6 181 yX6_fractionPart wsX6_fractionPart) := goodIn_app (goodIn_of _ (by decide +kernel)) ggX6_mean_X6_fractionPart
theorem dX6_mean_0 : decode cX6_mean 0 = .ok (.iload_n 1, 1) := by decide +kernel
theorem dX6_mean_1 : decode cX6_mean 1 = .ok (.invokestatic 172, 3) := by decide +kernel
theorem dX6_mean_4 : decode cX6_mean 4 = .ok (.ifCond .eq 23, 3) := by decide +kernel
theorem dX6_mean_7 : decode cX6_mean 7 = .ok (.aload_n 0, 1) := by decide +kernel
theorem dX6_mean_8 : decode cX6_mean 8 = .ok (.getfield 10, 3) := by decide +kernel
theorem dX6_mean_11 : decode cX6_mean 11 = .ok (.iload_n 2, 1) := by decide +kernel
theorem dX6_mean_12 : decode cX6_mean 12 = .ok (.invokevirtual 121, 3) := by decide +kernel
theorem dX6_mean_15 : decode cX6_mean 15 = .ok (.ifCond .eq 12, 3) := by decide +kernel
theorem dX6_mean_18 : decode cX6_mean 18 = .ok (.iload_n 3, 1) := by decide +kernel
theorem dX6_mean_19 : decode cX6_mean 19 = .ok (.iconst 0, 1) := by decide +kernel
theorem dX6_mean_20 : decode cX6_mean 20 = .ok (.iconst 1, 1) := by decide +kernel
theorem dX6_mean_21 : decode cX6_mean 21 = .ok (.invokestatic 59, 3) := by decide +kernel
theorem dX6_mean_24 : decode cX6_mean 24 = .ok (.ifCond .ne 7, 3) := by decide +kernel
theorem dX6_mean_27 : decode cX6_mean 27 = .ok (.sipush (-1002), 3) := by decide +kernel
theorem dX6_mean_30 : decode cX6_mean 30 = .ok (.ireturn, 1) := by decide +kernel
theorem dX6_mean_31 : decode cX6_mean 31 = .ok (.iconst 0, 1) := by decide +kernel
theorem dX6_mean_32 : decode cX6_mean 32 = .ok (.istore 4, 2) := by decide +kernel
theorem dX6_mean_34 : decode cX6_mean 34 = .ok (.iconst 0, 1) := by decide +kernel
theorem dX6_mean_35 : decode cX6_mean 35 = .ok (.istore 5, 2) := by decide +kernel
theorem dX6_mean_37 : decode cX6_mean 37 = .ok (.iload 5, 2) := by decide +kernel
theorem dX6_mean_39 : decode cX6_mean 39 = .ok (.bipush 10, 2) := by decide +kernel
theorem dX6_mean_41 : decode cX6_mean 41 = .ok (.if_icmp .ge 32, 3) := by decide +kernel
theorem dX6_mean_44 : decode cX6_mean 44 = .ok (.iload_n 2, 1) := by decide +kernel
theorem dX6_mean_45 : decode cX6_mean 45 = .ok (.iload 5, 2) := by decide +kernel
theorem dX6_mean_47 : decode cX6_mean 47 = .ok (.invokestatic 185, 3) := by decide +kernel
theorem dX6_mean_50 : decode cX6_mean 50 = .ok (.ifCond .eq 17, 3) := by decide +kernel
theorem dX6_mean_53 : decode cX6_mean 53 = .ok (.iload 4, 2) := by decide +kernel
theorem dX6_mean_55 : decode cX6_mean 55 = .ok (.aload_n 0, 1) := by decide +kernel
theorem dX6_mean_56 : decode cX6_mean 56 = .ok (.iload_n 1, 1) := by decide +kernel
theorem dX6_mean_57 : decode cX6_mean 57 = .ok (.iconst 1, 1) := by decide +kernel
theorem dX6_mean_58 : decode cX6_mean 58 = .ok (.iload 5, 2) := by decide +kernel
theorem dX6_mean_60 : decode cX6_mean 60 = .ok (.ishl, 1) := by decide +kernel
theorem dX6_mean_61 : decode cX6_mean 61 = .ok (.invokevirtual 178, 3) := by decide +kernel
theorem dX6_mean_64 : decode cX6_mean 64 = .ok (.iadd, 1) := by decide +kernel
theorem dX6_mean_65 : decode cX6_mean 65 = .ok (.istore 4, 2) := by decide +kernel
theorem dX6_mean_67 : decode cX6_mean 67 = .ok (.iinc 5 1, 3) := by decide +kernel
theorem dX6_mean_70 : decode cX6_mean 70 = .ok (.goto (-33), 3) := by decide +kernel
theorem dX6_mean_73 : decode cX6_mean 73 = .ok (.iload 4, 2) := by decide +kernel
theorem dX6_mean_75 : decode cX6_mean 75 = .ok (.i2l, 1) := by decide +kernel
theorem dX6_mean_76 : decode cX6_mean 76 = .ok (.iload_n 2, 1) := by decide +kernel
theorem dX6_mean_77 : decode cX6_mean 77 = .ok (.invokestatic 188, 3) := by decide +kernel
theorem dX6_mean_80 : decode cX6_mean 80 = .ok (.i2l, 1) := by decide +kernel
theorem dX6_mean_81 : decode cX6_mean 81 = .ok (.iload_n 3, 1) := by decide +kernel
theorem dX6_mean_82 : decode cX6_mean 82 = .ok (.invokestatic 181, 3) := by decide +kernel
theorem dX6_mean_85 : decode cX6_mean 85 = .ok (.l2i, 1) := by decide +kernel
theorem dX6_mean_86 : decode cX6_mean 86 = .ok (.ireturn, 1) := by decide +kernel
set_option maxRecDepth 20000 in
theorem ggX6_chance_X3_has : GoodIn wsX6_chance wsX3_has := goodIn_r _ [11, 12, 13, 14, 15, 85, 86, 87, 88, 89, 90] (by decide +kernel) (by decide +kernel)
set_option maxRecDepth 20000 in
theorem gX6_chance_X3_has : GoodIn wsX6_chance (wsV RX6 73 RX3 yX3_has wsX3_has) := goodIn_app (goodIn_of _ (by decide +kernel)) ggX6_chance_X3_has
set_option maxRecDepth 20000 in
theorem ggX6_chance_X3_isStart : GoodIn wsX6_chance wsX3_isStart := goodIn_r _ [19, 20, 21, 22, 10, 23, 12, 13, 14, 15, 85, 86, 87, 88, 89, 90] (by decide +kernel) (by decide +kernel)
set_option maxRecDepth 20000 in
theorem gX6_chance_X3_isStart : GoodIn wsX6_chance (wsV RX6 121 RX3 yX3_isStart wsX3_isStart) := goodIn_app (goodIn_of _ (by decide +kernel)) ggX6_chance_X3_isStart
set_option maxRecDepth 20000 in
theorem ggX6_chance_X3_all : GoodIn wsX6_chance wsX3_all := goodIn_r _ [23, 12, 85, 86, 87, 88, 89, 90] (by decide +kernel) (by decide +kernel)
set_option maxRecDepth 20000 in
theorem gX6_chance_X3_all : GoodIn wsX6_chance (wsV RX6 107 RX3 yX3_all wsX3_all) := goodIn_app (goodIn_of _ (by decide +kernel)) ggX6_chance_X3_all
set_option maxRecDepth 20000 in
theorem ggX6_chance_X6_within : GoodIn wsX6_chance wsX6_within := goodIn_r _ [15] (by decide +kernel) (by decide +kernel)
set_option maxRecDepth 20000 in
theorem gX6_chance_X6_within : GoodIn wsX6_chance (va_wsS RX6 59 yX6_within wsX6_within) := goodIn_app (goodIn_of _ (by decide +kernel)) ggX6_chance_X6_within
set_option maxRecDepth 20000 in
theorem ggX6_chance_X1_lay : GoodIn wsX6_chance wsX1_lay := goodIn_r _ [30, 31, 32, 33, 34, 35, 36, 37, 38, 39, 40, 41, 42, 43, 10, 44, 45, 85, 86, 87, 88, 89, 90, 91, 92, 93, 94, 95] (by decide +kernel) (by decide +kernel)
set_option maxRecDepth 20000 in
theorem gX6_chance_X1_lay : GoodIn wsX6_chance (wsV RX6 199 RX1 yX1_lay wsX1_lay) := goodIn_app (goodIn_of _ (by decide +kernel)) ggX6_chance_X1_lay
set_option maxRecDepth 20000 in
theorem ggX6_chance_X1_waysTo : GoodIn wsX6_chance wsX1_waysTo := goodIn_r _ [49, 36, 50, 51, 52, 29, 53, 39, 40, 54, 55, 56, 57, 58, 59, 60, 37, 38, 61, 14, 62, 63, 64, 65, 66, 91, 92, 93, 94, 95] (by decide +kernel) (by decide +kernel)
set_option maxRecDepth 20000 in
theorem gX6_chance_X1_waysTo : GoodIn wsX6_chance (wsV RX6 203 RX1 yX1_waysTo wsX1_waysTo) := goodIn_app (goodIn_of _ (by decide +kernel)) ggX6_chance_X1_waysTo
set_option maxRecDepth 20000 in
theorem ggX6_chance_X1_allWays : GoodIn wsX6_chance wsX1_allWays := goodIn_r _ [70, 39, 40, 36, 54, 55, 29, 56, 91, 92, 93, 94, 95] (by decide +kernel) (by decide +kernel)
set_option maxRecDepth 20000 in
theorem gX6_chance_X1_allWays : GoodIn wsX6_chance (wsV RX6 207 RX1 yX1_allWays wsX1_allWays) := goodIn_app (goodIn_of _ (by decide +kernel)) ggX6_chance_X1_allWays
set_option maxRecDepth 20000 in
theorem ggX6_chance_X6_fractionPart : GoodIn wsX6_chance wsX6_fractionPart := goodIn_r _ [73, 74, 75, 14, 76] (by decide +kernel) (by decide +kernel)
set_option maxRecDepth 20000 in
theorem gX6_chance_X6_fractionPart : GoodIn wsX6_chance (va_wsS RX6 181 yX6_fractionPart wsX6_fractionPart) := goodIn_app (goodIn_of _ (by decide +kernel)) ggX6_chance_X6_fractionPart
theorem dX6_chance_0 : decode cX6_chance 0 = .ok (.aload_n 0, 1) := by decide +kernel
theorem dX6_chance_1 : decode cX6_chance 1 = .ok (.getfield 10, 3) := by decide +kernel
theorem dX6_chance_4 : decode cX6_chance 4 = .ok (.iload_n 1, 1) := by decide +kernel
theorem dX6_chance_5 : decode cX6_chance 5 = .ok (.invokevirtual 73, 3) := by decide +kernel
theorem dX6_chance_8 : decode cX6_chance 8 = .ok (.ifCond .ne 7, 3) := by decide +kernel
theorem dX6_chance_11 : decode cX6_chance 11 = .ok (.ldc2_w 193, 3) := by decide +kernel
theorem dX6_chance_14 : decode cX6_chance 14 = .ok (.lreturn, 1) := by decide +kernel
theorem dX6_chance_15 : decode cX6_chance 15 = .ok (.aload_n 0, 1) := by decide +kernel
theorem dX6_chance_16 : decode cX6_chance 16 = .ok (.getfield 10, 3) := by decide +kernel
theorem dX6_chance_19 : decode cX6_chance 19 = .ok (.iload_n 2, 1) := by decide +kernel
theorem dX6_chance_20 : decode cX6_chance 20 = .ok (.invokevirtual 121, 3) := by decide +kernel
theorem dX6_chance_23 : decode cX6_chance 23 = .ok (.ifCond .eq 18, 3) := by decide +kernel
theorem dX6_chance_26 : decode cX6_chance 26 = .ok (.iload_n 3, 1) := by decide +kernel
theorem dX6_chance_27 : decode cX6_chance 27 = .ok (.iconst 0, 1) := by decide +kernel
theorem dX6_chance_28 : decode cX6_chance 28 = .ok (.aload_n 0, 1) := by decide +kernel
theorem dX6_chance_29 : decode cX6_chance 29 = .ok (.getfield 10, 3) := by decide +kernel
theorem dX6_chance_32 : decode cX6_chance 32 = .ok (.invokevirtual 107, 3) := by decide +kernel
theorem dX6_chance_35 : decode cX6_chance 35 = .ok (.invokestatic 59, 3) := by decide +kernel
theorem dX6_chance_38 : decode cX6_chance 38 = .ok (.ifCond .ne 7, 3) := by decide +kernel
theorem dX6_chance_41 : decode cX6_chance 41 = .ok (.ldc2_w 195, 3) := by decide +kernel
theorem dX6_chance_44 : decode cX6_chance 44 = .ok (.lreturn, 1) := by decide +kernel
theorem dX6_chance_45 : decode cX6_chance 45 = .ok (.iload 5, 2) := by decide +kernel
theorem dX6_chance_47 : decode cX6_chance 47 = .ok (.iconst 1, 1) := by decide +kernel
theorem dX6_chance_48 : decode cX6_chance 48 = .ok (.bipush 6, 2) := by decide +kernel
theorem dX6_chance_50 : decode cX6_chance 50 = .ok (.invokestatic 59, 3) := by decide +kernel
theorem dX6_chance_53 : decode cX6_chance 53 = .ok (.ifCond .eq 24, 3) := by decide +kernel
theorem dX6_chance_56 : decode cX6_chance 56 = .ok (.iload 4, 2) := by decide +kernel
theorem dX6_chance_58 : decode cX6_chance 58 = .ok (.iconst 0, 1) := by decide +kernel
theorem dX6_chance_59 : decode cX6_chance 59 = .ok (.iload 5, 2) := by decide +kernel
theorem dX6_chance_61 : decode cX6_chance 61 = .ok (.invokestatic 59, 3) := by decide +kernel
theorem dX6_chance_64 : decode cX6_chance 64 = .ok (.ifCond .eq 13, 3) := by decide +kernel
theorem dX6_chance_67 : decode cX6_chance 67 = .ok (.iload 6, 2) := by decide +kernel
theorem dX6_chance_69 : decode cX6_chance 69 = .ok (.iconst 0, 1) := by decide +kernel
theorem dX6_chance_70 : decode cX6_chance 70 = .ok (.iconst 1, 1) := by decide +kernel
theorem dX6_chance_71 : decode cX6_chance 71 = .ok (.invokestatic 59, 3) := by decide +kernel
theorem dX6_chance_74 : decode cX6_chance 74 = .ok (.ifCond .ne 7, 3) := by decide +kernel
theorem dX6_chance_77 : decode cX6_chance 77 = .ok (.ldc2_w 195, 3) := by decide +kernel
theorem dX6_chance_80 : decode cX6_chance 80 = .ok (.lreturn, 1) := by decide +kernel
theorem dX6_chance_81 : decode cX6_chance 81 = .ok (.aload_n 0, 1) := by decide +kernel
theorem dX6_chance_82 : decode cX6_chance 82 = .ok (.getfield 10, 3) := by decide +kernel
theorem dX6_chance_85 : decode cX6_chance 85 = .ok (.getfield 81, 3) := by decide +kernel
theorem dX6_chance_88 : decode cX6_chance 88 = .ok (.bipush 12, 2) := by decide +kernel
theorem dX6_chance_90 : decode cX6_chance 90 = .ok (.if_icmp .le 7, 3) := by decide +kernel
theorem dX6_chance_93 : decode cX6_chance 93 = .ok (.ldc2_w 197, 3) := by decide +kernel
theorem dX6_chance_96 : decode cX6_chance 96 = .ok (.lreturn, 1) := by decide +kernel
theorem dX6_chance_97 : decode cX6_chance 97 = .ok (.aload_n 0, 1) := by decide +kernel
theorem dX6_chance_98 : decode cX6_chance 98 = .ok (.getfield 44, 3) := by decide +kernel
theorem dX6_chance_101 : decode cX6_chance 101 = .ok (.aload_n 0, 1) := by decide +kernel
theorem dX6_chance_102 : decode cX6_chance 102 = .ok (.getfield 10, 3) := by decide +kernel
theorem dX6_chance_105 : decode cX6_chance 105 = .ok (.iload_n 3, 1) := by decide +kernel
theorem dX6_chance_106 : decode cX6_chance 106 = .ok (.iload_n 2, 1) := by decide +kernel
theorem dX6_chance_107 : decode cX6_chance 107 = .ok (.iconst (-1), 1) := by decide +kernel
theorem dX6_chance_108 : decode cX6_chance 108 = .ok (.ixor, 1) := by decide +kernel
theorem dX6_chance_109 : decode cX6_chance 109 = .ok (.iand, 1) := by decide +kernel
theorem dX6_chance_110 : decode cX6_chance 110 = .ok (.iload 4, 2) := by decide +kernel
theorem dX6_chance_112 : decode cX6_chance 112 = .ok (.iload 5, 2) := by decide +kernel
theorem dX6_chance_114 : decode cX6_chance 114 = .ok (.invokevirtual 199, 3) := by decide +kernel
theorem dX6_chance_117 : decode cX6_chance 117 = .ok (.aload_n 0, 1) := by decide +kernel
theorem dX6_chance_118 : decode cX6_chance 118 = .ok (.getfield 44, 3) := by decide +kernel
theorem dX6_chance_121 : decode cX6_chance 121 = .ok (.iload_n 1, 1) := by decide +kernel
theorem dX6_chance_122 : decode cX6_chance 122 = .ok (.iload_n 2, 1) := by decide +kernel
theorem dX6_chance_123 : decode cX6_chance 123 = .ok (.invokevirtual 203, 3) := by decide +kernel
theorem dX6_chance_126 : decode cX6_chance 126 = .ok (.aload_n 0, 1) := by decide +kernel
theorem dX6_chance_127 : decode cX6_chance 127 = .ok (.getfield 44, 3) := by decide +kernel
theorem dX6_chance_130 : decode cX6_chance 130 = .ok (.invokevirtual 207, 3) := by decide +kernel
theorem dX6_chance_133 : decode cX6_chance 133 = .ok (.iload 6, 2) := by decide +kernel
theorem dX6_chance_135 : decode cX6_chance 135 = .ok (.invokestatic 181, 3) := by decide +kernel
theorem dX6_chance_138 : decode cX6_chance 138 = .ok (.lreturn, 1) := by decide +kernel
set_option maxRecDepth 20000 in
theorem ggX6_wall_X6_within : GoodIn wsX6_wall wsX6_within := goodIn_r _ [6] (by decide +kernel) (by decide +kernel)
set_option maxRecDepth 20000 in
theorem gX6_wall_X6_within : GoodIn wsX6_wall (va_wsS RX6 59 yX6_within wsX6_within) := goodIn_app (goodIn_of _ (by decide +kernel)) ggX6_wall_X6_within
set_option maxRecDepth 20000 in
theorem ggX6_wall_X0_isWall : GoodIn wsX6_wall wsX0_isWall := goodIn_r _ [11, 12, 13, 14, 28, 29, 30, 31, 32, 33, 34, 35, 36] (by decide +kernel) (by decide +kernel)
set_option maxRecDepth 20000 in
theorem gX6_wall_X0_isWall : GoodIn wsX6_wall (wsV RX6 211 RX0 yX0_isWall wsX0_isWall) := goodIn_app (goodIn_of _ (by decide +kernel)) ggX6_wall_X0_isWall
set_option maxRecDepth 20000 in
theorem ggX6_wall_X0_add : GoodIn wsX6_wall wsX0_add := goodIn_r _ [18, 12, 13, 14, 19, 28, 29, 30, 31, 32, 33, 34, 35, 36] (by decide +kernel) (by decide +kernel)
set_option maxRecDepth 20000 in
theorem gX6_wall_X0_add : GoodIn wsX6_wall (wsV RX6 214 RX0 yX0_add wsX0_add) := goodIn_app (goodIn_of _ (by decide +kernel)) ggX6_wall_X0_add
theorem dX6_wall_0 : decode cX6_wall 0 = .ok (.iload_n 1, 1) := by decide +kernel
theorem dX6_wall_1 : decode cX6_wall 1 = .ok (.bipush (-30), 2) := by decide +kernel
theorem dX6_wall_3 : decode cX6_wall 3 = .ok (.bipush 30, 2) := by decide +kernel
theorem dX6_wall_5 : decode cX6_wall 5 = .ok (.invokestatic 59, 3) := by decide +kernel
theorem dX6_wall_8 : decode cX6_wall 8 = .ok (.ifCond .ne 7, 3) := by decide +kernel
theorem dX6_wall_11 : decode cX6_wall 11 = .ok (.sipush (-1002), 3) := by decide +kernel
theorem dX6_wall_14 : decode cX6_wall 14 = .ok (.ireturn, 1) := by decide +kernel
theorem dX6_wall_15 : decode cX6_wall 15 = .ok (.iload_n 2, 1) := by decide +kernel
theorem dX6_wall_16 : decode cX6_wall 16 = .ok (.bipush (-30), 2) := by decide +kernel
theorem dX6_wall_18 : decode cX6_wall 18 = .ok (.bipush 30, 2) := by decide +kernel
theorem dX6_wall_20 : decode cX6_wall 20 = .ok (.invokestatic 59, 3) := by decide +kernel
theorem dX6_wall_23 : decode cX6_wall 23 = .ok (.ifCond .ne 7, 3) := by decide +kernel
theorem dX6_wall_26 : decode cX6_wall 26 = .ok (.sipush (-1002), 3) := by decide +kernel
theorem dX6_wall_29 : decode cX6_wall 29 = .ok (.ireturn, 1) := by decide +kernel
theorem dX6_wall_30 : decode cX6_wall 30 = .ok (.iload_n 1, 1) := by decide +kernel
theorem dX6_wall_31 : decode cX6_wall 31 = .ok (.ifCond .ne 7, 3) := by decide +kernel
theorem dX6_wall_34 : decode cX6_wall 34 = .ok (.iload_n 2, 1) := by decide +kernel
theorem dX6_wall_35 : decode cX6_wall 35 = .ok (.ifCond .eq 13, 3) := by decide +kernel
theorem dX6_wall_38 : decode cX6_wall 38 = .ok (.iload_n 3, 1) := by decide +kernel
theorem dX6_wall_39 : decode cX6_wall 39 = .ok (.iconst 1, 1) := by decide +kernel
theorem dX6_wall_40 : decode cX6_wall 40 = .ok (.bipush 20, 2) := by decide +kernel
theorem dX6_wall_42 : decode cX6_wall 42 = .ok (.invokestatic 59, 3) := by decide +kernel
theorem dX6_wall_45 : decode cX6_wall 45 = .ok (.ifCond .ne 7, 3) := by decide +kernel
theorem dX6_wall_48 : decode cX6_wall 48 = .ok (.sipush (-1002), 3) := by decide +kernel
theorem dX6_wall_51 : decode cX6_wall 51 = .ok (.ireturn, 1) := by decide +kernel
theorem dX6_wall_52 : decode cX6_wall 52 = .ok (.aload_n 0, 1) := by decide +kernel
theorem dX6_wall_53 : decode cX6_wall 53 = .ok (.getfield 51, 3) := by decide +kernel
theorem dX6_wall_56 : decode cX6_wall 56 = .ok (.iload_n 1, 1) := by decide +kernel
theorem dX6_wall_57 : decode cX6_wall 57 = .ok (.iload_n 2, 1) := by decide +kernel
theorem dX6_wall_58 : decode cX6_wall 58 = .ok (.invokevirtual 211, 3) := by decide +kernel
theorem dX6_wall_61 : decode cX6_wall 61 = .ok (.ifCond .eq 7, 3) := by decide +kernel
theorem dX6_wall_64 : decode cX6_wall 64 = .ok (.sipush (-1003), 3) := by decide +kernel
theorem dX6_wall_67 : decode cX6_wall 67 = .ok (.ireturn, 1) := by decide +kernel
theorem dX6_wall_68 : decode cX6_wall 68 = .ok (.aload_n 0, 1) := by decide +kernel
theorem dX6_wall_69 : decode cX6_wall 69 = .ok (.getfield 51, 3) := by decide +kernel
theorem dX6_wall_72 : decode cX6_wall 72 = .ok (.getfield 115, 3) := by decide +kernel
theorem dX6_wall_75 : decode cX6_wall 75 = .ok (.bipush 40, 2) := by decide +kernel
theorem dX6_wall_77 : decode cX6_wall 77 = .ok (.if_icmp .lt 7, 3) := by decide +kernel
theorem dX6_wall_80 : decode cX6_wall 80 = .ok (.sipush (-1004), 3) := by decide +kernel
theorem dX6_wall_83 : decode cX6_wall 83 = .ok (.ireturn, 1) := by decide +kernel
theorem dX6_wall_84 : decode cX6_wall 84 = .ok (.aload_n 0, 1) := by decide +kernel
theorem dX6_wall_85 : decode cX6_wall 85 = .ok (.getfield 51, 3) := by decide +kernel
theorem dX6_wall_88 : decode cX6_wall 88 = .ok (.iload_n 1, 1) := by decide +kernel
theorem dX6_wall_89 : decode cX6_wall 89 = .ok (.iload_n 2, 1) := by decide +kernel
theorem dX6_wall_90 : decode cX6_wall 90 = .ok (.iload_n 3, 1) := by decide +kernel
theorem dX6_wall_91 : decode cX6_wall 91 = .ok (.invokevirtual 214, 3) := by decide +kernel
theorem dX6_wall_94 : decode cX6_wall 94 = .ok (.ireturn, 1) := by decide +kernel
theorem dX6_raze_0 : decode cX6_raze 0 = .ok (.aload_n 0, 1) := by decide +kernel
theorem dX6_raze_1 : decode cX6_raze 1 = .ok (.getfield 51, 3) := by decide +kernel
theorem dX6_raze_4 : decode cX6_raze 4 = .ok (.getfield 115, 3) := by decide +kernel
theorem dX6_raze_7 : decode cX6_raze 7 = .ok (.istore_n 1, 1) := by decide +kernel
theorem dX6_raze_8 : decode cX6_raze 8 = .ok (.aload_n 0, 1) := by decide +kernel
theorem dX6_raze_9 : decode cX6_raze 9 = .ok (.getfield 51, 3) := by decide +kernel
theorem dX6_raze_12 : decode cX6_raze 12 = .ok (.iconst 0, 1) := by decide +kernel
theorem dX6_raze_13 : decode cX6_raze 13 = .ok (.putfield 115, 3) := by decide +kernel
theorem dX6_raze_16 : decode cX6_raze 16 = .ok (.iload_n 1, 1) := by decide +kernel
theorem dX6_raze_17 : decode cX6_raze 17 = .ok (.ireturn, 1) := by decide +kernel
set_option maxRecDepth 20000 in
theorem ggX6_board_X6_within : GoodIn wsX6_board wsX6_within := goodIn_r _ [7] (by decide +kernel) (by decide +kernel)
set_option maxRecDepth 20000 in
theorem gX6_board_X6_within : GoodIn wsX6_board (va_wsS RX6 59 yX6_within wsX6_within) := goodIn_app (goodIn_of _ (by decide +kernel)) ggX6_board_X6_within
set_option maxRecDepth 20000 in
theorem ggX6_board_X0_burn : GoodIn wsX6_board wsX0_burn := goodIn_r _ [12, 13, 14, 15, 16, 17, 18, 19, 20, 21, 22, 23, 24, 11, 25, 26, 27, 28, 29, 30, 31, 32, 5, 6, 7, 33, 34, 35, 36, 37, 38, 39, 40, 41, 42, 43, 44, 45, 46, 47, 48, 49, 50, 81, 82, 83, 84, 85, 86, 87, 88, 89] (by decide +kernel) (by decide +kernel)
set_option maxRecDepth 20000 in
theorem gX6_board_X0_burn : GoodIn wsX6_board (wsV RX6 218 RX0 yX0_burn wsX0_burn) := goodIn_app (goodIn_of _ (by decide +kernel)) ggX6_board_X0_burn
set_option maxRecDepth 20000 in
theorem ggX6_board_X0_burnt : GoodIn wsX6_board wsX0_burnt := goodIn_r _ [54, 13, 55, 56, 57, 58, 59, 60, 61, 81, 82, 83, 84, 85, 86, 87, 88, 89] (by decide +kernel) (by decide +kernel)
set_option maxRecDepth 20000 in
theorem gX6_board_X0_burnt : GoodIn wsX6_board (wsV RX6 224 RX0 yX0_burnt wsX0_burnt) := goodIn_app (goodIn_of _ (by decide +kernel)) ggX6_board_X0_burnt
set_option maxRecDepth 20000 in
theorem ggX6_board_X0_reach : GoodIn wsX6_board wsX0_reach := goodIn_r _ [65, 13, 66, 67, 68, 69, 70, 71, 72, 81, 82, 83, 84, 85, 86, 87, 88, 89] (by decide +kernel) (by decide +kernel)
set_option maxRecDepth 20000 in
theorem gX6_board_X0_reach : GoodIn wsX6_board (wsV RX6 230 RX0 yX0_reach wsX0_reach) := goodIn_app (goodIn_of _ (by decide +kernel)) ggX6_board_X0_reach
theorem dX6_board_0 : decode cX6_board 0 = .ok (.iload_n 1, 1) := by decide +kernel
theorem dX6_board_1 : decode cX6_board 1 = .ok (.iconst 0, 1) := by decide +kernel
theorem dX6_board_2 : decode cX6_board 2 = .ok (.iconst 3, 1) := by decide +kernel
theorem dX6_board_3 : decode cX6_board 3 = .ok (.invokestatic 59, 3) := by decide +kernel
theorem dX6_board_6 : decode cX6_board 6 = .ok (.ifCond .ne 7, 3) := by decide +kernel
theorem dX6_board_9 : decode cX6_board 9 = .ok (.sipush (-1002), 3) := by decide +kernel
theorem dX6_board_12 : decode cX6_board 12 = .ok (.ireturn, 1) := by decide +kernel
theorem dX6_board_13 : decode cX6_board 13 = .ok (.aload_n 0, 1) := by decide +kernel
theorem dX6_board_14 : decode cX6_board 14 = .ok (.getfield 51, 3) := by decide +kernel
theorem dX6_board_17 : decode cX6_board 17 = .ok (.invokevirtual 218, 3) := by decide +kernel
theorem dX6_board_20 : decode cX6_board 20 = .ok (.iload_n 1, 1) := by decide +kernel
theorem dX6_board_21 : decode cX6_board 21 = .ok (.tableswitch 51 0 2 #[27, 35, 43], 27) := by decide +kernel
theorem dX6_board_48 : decode cX6_board 48 = .ok (.aload_n 0, 1) := by decide +kernel
theorem dX6_board_49 : decode cX6_board 49 = .ok (.getfield 51, 3) := by decide +kernel
theorem dX6_board_52 : decode cX6_board 52 = .ok (.getfield 221, 3) := by decide +kernel
theorem dX6_board_55 : decode cX6_board 55 = .ok (.ireturn, 1) := by decide +kernel
theorem dX6_board_56 : decode cX6_board 56 = .ok (.aload_n 0, 1) := by decide +kernel
theorem dX6_board_57 : decode cX6_board 57 = .ok (.getfield 51, 3) := by decide +kernel
theorem dX6_board_60 : decode cX6_board 60 = .ok (.invokevirtual 224, 3) := by decide +kernel
theorem dX6_board_63 : decode cX6_board 63 = .ok (.ireturn, 1) := by decide +kernel
theorem dX6_board_64 : decode cX6_board 64 = .ok (.aload_n 0, 1) := by decide +kernel
theorem dX6_board_65 : decode cX6_board 65 = .ok (.getfield 51, 3) := by decide +kernel
theorem dX6_board_68 : decode cX6_board 68 = .ok (.getfield 227, 3) := by decide +kernel
theorem dX6_board_71 : decode cX6_board 71 = .ok (.ireturn, 1) := by decide +kernel
theorem dX6_board_72 : decode cX6_board 72 = .ok (.aload_n 0, 1) := by decide +kernel
theorem dX6_board_73 : decode cX6_board 73 = .ok (.getfield 51, 3) := by decide +kernel
theorem dX6_board_76 : decode cX6_board 76 = .ok (.invokevirtual 230, 3) := by decide +kernel
theorem dX6_board_79 : decode cX6_board 79 = .ok (.ireturn, 1) := by decide +kernel
theorem dX6_within_0 : decode cX6_within 0 = .ok (.iload_n 0, 1) := by decide +kernel
theorem dX6_within_1 : decode cX6_within 1 = .ok (.iload_n 1, 1) := by decide +kernel
theorem dX6_within_2 : decode cX6_within 2 = .ok (.if_icmp .lt 12, 3) := by decide +kernel
theorem dX6_within_5 : decode cX6_within 5 = .ok (.iload_n 0, 1) := by decide +kernel
theorem dX6_within_6 : decode cX6_within 6 = .ok (.iload_n 2, 1) := by decide +kernel
theorem dX6_within_7 : decode cX6_within 7 = .ok (.if_icmp .gt 7, 3) := by decide +kernel
theorem dX6_within_10 : decode cX6_within 10 = .ok (.iconst 1, 1) := by decide +kernel
theorem dX6_within_11 : decode cX6_within 11 = .ok (.goto 4, 3) := by decide +kernel
theorem dX6_within_14 : decode cX6_within 14 = .ok (.iconst 0, 1) := by decide +kernel
theorem dX6_within_15 : decode cX6_within 15 = .ok (.ireturn, 1) := by decide +kernel
set_option maxRecDepth 20000 in
theorem ggX6_isRule_X6_within : GoodIn wsX6_isRule wsX6_within := goodIn_r _ [4] (by decide +kernel) (by decide +kernel)
set_option maxRecDepth 20000 in
theorem gX6_isRule_X6_within : GoodIn wsX6_isRule (va_wsS RX6 59 yX6_within wsX6_within) := goodIn_app (goodIn_of _ (by decide +kernel)) ggX6_isRule_X6_within
theorem dX6_isRule_0 : decode cX6_isRule 0 = .ok (.iload_n 0, 1) := by decide +kernel
theorem dX6_isRule_1 : decode cX6_isRule 1 = .ok (.iconst 0, 1) := by decide +kernel
theorem dX6_isRule_2 : decode cX6_isRule 2 = .ok (.iconst 2, 1) := by decide +kernel
theorem dX6_isRule_3 : decode cX6_isRule 3 = .ok (.invokestatic 59, 3) := by decide +kernel
theorem dX6_isRule_6 : decode cX6_isRule 6 = .ok (.ireturn, 1) := by decide +kernel
theorem dX6_holds_0 : decode cX6_holds 0 = .ok (.iload_n 0, 1) := by decide +kernel
theorem dX6_holds_1 : decode cX6_holds 1 = .ok (.iload_n 1, 1) := by decide +kernel
theorem dX6_holds_2 : decode cX6_holds 2 = .ok (.ishr, 1) := by decide +kernel
theorem dX6_holds_3 : decode cX6_holds 3 = .ok (.iconst 1, 1) := by decide +kernel
theorem dX6_holds_4 : decode cX6_holds 4 = .ok (.iand, 1) := by decide +kernel
theorem dX6_holds_5 : decode cX6_holds 5 = .ok (.ifCond .eq 7, 3) := by decide +kernel
theorem dX6_holds_8 : decode cX6_holds 8 = .ok (.iconst 1, 1) := by decide +kernel
theorem dX6_holds_9 : decode cX6_holds 9 = .ok (.goto 4, 3) := by decide +kernel
theorem dX6_holds_12 : decode cX6_holds 12 = .ok (.iconst 0, 1) := by decide +kernel
theorem dX6_holds_13 : decode cX6_holds 13 = .ok (.ireturn, 1) := by decide +kernel
theorem dX6_swap_0 : decode cX6_swap 0 = .ok (.iload_n 1, 1) := by decide +kernel
theorem dX6_swap_1 : decode cX6_swap 1 = .ok (.ifCond .lt 9, 3) := by decide +kernel
theorem dX6_swap_4 : decode cX6_swap 4 = .ok (.iload_n 1, 1) := by decide +kernel
theorem dX6_swap_5 : decode cX6_swap 5 = .ok (.aload_n 0, 1) := by decide +kernel
theorem dX6_swap_6 : decode cX6_swap 6 = .ok (.arraylength, 1) := by decide +kernel
theorem dX6_swap_7 : decode cX6_swap 7 = .ok (.if_icmp .lt 5, 3) := by decide +kernel
theorem dX6_swap_10 : decode cX6_swap 10 = .ok (.iconst (-1), 1) := by decide +kernel
theorem dX6_swap_11 : decode cX6_swap 11 = .ok (.ireturn, 1) := by decide +kernel
theorem dX6_swap_12 : decode cX6_swap 12 = .ok (.aload_n 0, 1) := by decide +kernel
theorem dX6_swap_13 : decode cX6_swap 13 = .ok (.iload_n 1, 1) := by decide +kernel
theorem dX6_swap_14 : decode cX6_swap 14 = .ok (.iaload, 1) := by decide +kernel
theorem dX6_swap_15 : decode cX6_swap 15 = .ok (.istore_n 3, 1) := by decide +kernel
theorem dX6_swap_16 : decode cX6_swap 16 = .ok (.aload_n 0, 1) := by decide +kernel
theorem dX6_swap_17 : decode cX6_swap 17 = .ok (.iload_n 1, 1) := by decide +kernel
theorem dX6_swap_18 : decode cX6_swap 18 = .ok (.iload_n 2, 1) := by decide +kernel
theorem dX6_swap_19 : decode cX6_swap 19 = .ok (.iastore, 1) := by decide +kernel
theorem dX6_swap_20 : decode cX6_swap 20 = .ok (.iload_n 3, 1) := by decide +kernel
theorem dX6_swap_21 : decode cX6_swap 21 = .ok (.ireturn, 1) := by decide +kernel
set_option maxRecDepth 20000 in
theorem ggX6_fractionPart_X6_commonDivisor : GoodIn wsX6_fractionPart wsX6_commonDivisor := goodIn_r _ [4] (by decide +kernel) (by decide +kernel)
set_option maxRecDepth 20000 in
theorem gX6_fractionPart_X6_commonDivisor : GoodIn wsX6_fractionPart (va_wsS RX6 233 yX6_commonDivisor wsX6_commonDivisor) := goodIn_app (goodIn_of _ (by decide +kernel)) ggX6_fractionPart_X6_commonDivisor
theorem dX6_fractionPart_0 : decode cX6_fractionPart 0 = .ok (.iload 4, 2) := by decide +kernel
theorem dX6_fractionPart_2 : decode cX6_fractionPart 2 = .ok (.ifCond .ne 7, 3) := by decide +kernel
theorem dX6_fractionPart_5 : decode cX6_fractionPart 5 = .ok (.lload_n 0, 1) := by decide +kernel
theorem dX6_fractionPart_6 : decode cX6_fractionPart 6 = .ok (.goto 4, 3) := by decide +kernel
theorem dX6_fractionPart_9 : decode cX6_fractionPart 9 = .ok (.lload_n 2, 1) := by decide +kernel
theorem dX6_fractionPart_10 : decode cX6_fractionPart 10 = .ok (.lstore 5, 2) := by decide +kernel
theorem dX6_fractionPart_12 : decode cX6_fractionPart 12 = .ok (.lload_n 0, 1) := by decide +kernel
theorem dX6_fractionPart_13 : decode cX6_fractionPart 13 = .ok (.lload_n 2, 1) := by decide +kernel
theorem dX6_fractionPart_14 : decode cX6_fractionPart 14 = .ok (.invokestatic 233, 3) := by decide +kernel
theorem dX6_fractionPart_17 : decode cX6_fractionPart 17 = .ok (.lstore 7, 2) := by decide +kernel
theorem dX6_fractionPart_19 : decode cX6_fractionPart 19 = .ok (.lload 7, 2) := by decide +kernel
theorem dX6_fractionPart_21 : decode cX6_fractionPart 21 = .ok (.lconst 0, 1) := by decide +kernel
theorem dX6_fractionPart_22 : decode cX6_fractionPart 22 = .ok (.lcmp, 1) := by decide +kernel
theorem dX6_fractionPart_23 : decode cX6_fractionPart 23 = .ok (.ifCond .ne 8, 3) := by decide +kernel
theorem dX6_fractionPart_26 : decode cX6_fractionPart 26 = .ok (.lload 5, 2) := by decide +kernel
theorem dX6_fractionPart_28 : decode cX6_fractionPart 28 = .ok (.goto 8, 3) := by decide +kernel
theorem dX6_fractionPart_31 : decode cX6_fractionPart 31 = .ok (.lload 5, 2) := by decide +kernel
theorem dX6_fractionPart_33 : decode cX6_fractionPart 33 = .ok (.lload 7, 2) := by decide +kernel
theorem dX6_fractionPart_35 : decode cX6_fractionPart 35 = .ok (.ldiv, 1) := by decide +kernel
theorem dX6_fractionPart_36 : decode cX6_fractionPart 36 = .ok (.lreturn, 1) := by decide +kernel
theorem dX6_commonDivisor_0 : decode cX6_commonDivisor 0 = .ok (.lload_n 0, 1) := by decide +kernel
theorem dX6_commonDivisor_1 : decode cX6_commonDivisor 1 = .ok (.lstore 4, 2) := by decide +kernel
theorem dX6_commonDivisor_3 : decode cX6_commonDivisor 3 = .ok (.lload_n 2, 1) := by decide +kernel
theorem dX6_commonDivisor_4 : decode cX6_commonDivisor 4 = .ok (.lstore 6, 2) := by decide +kernel
theorem dX6_commonDivisor_6 : decode cX6_commonDivisor 6 = .ok (.iconst 0, 1) := by decide +kernel
theorem dX6_commonDivisor_7 : decode cX6_commonDivisor 7 = .ok (.istore 8, 2) := by decide +kernel
theorem dX6_commonDivisor_9 : decode cX6_commonDivisor 9 = .ok (.iload 8, 2) := by decide +kernel
theorem dX6_commonDivisor_11 : decode cX6_commonDivisor 11 = .ok (.bipush 100, 2) := by decide +kernel
theorem dX6_commonDivisor_13 : decode cX6_commonDivisor 13 = .ok (.if_icmp .ge 31, 3) := by decide +kernel
theorem dX6_commonDivisor_16 : decode cX6_commonDivisor 16 = .ok (.lload 6, 2) := by decide +kernel
theorem dX6_commonDivisor_18 : decode cX6_commonDivisor 18 = .ok (.lconst 0, 1) := by decide +kernel
theorem dX6_commonDivisor_19 : decode cX6_commonDivisor 19 = .ok (.lcmp, 1) := by decide +kernel
theorem dX6_commonDivisor_20 : decode cX6_commonDivisor 20 = .ok (.ifCond .eq 24, 3) := by decide +kernel
theorem dX6_commonDivisor_23 : decode cX6_commonDivisor 23 = .ok (.lload 4, 2) := by decide +kernel
theorem dX6_commonDivisor_25 : decode cX6_commonDivisor 25 = .ok (.lload 6, 2) := by decide +kernel
theorem dX6_commonDivisor_27 : decode cX6_commonDivisor 27 = .ok (.lrem, 1) := by decide +kernel
theorem dX6_commonDivisor_28 : decode cX6_commonDivisor 28 = .ok (.lstore 9, 2) := by decide +kernel
theorem dX6_commonDivisor_30 : decode cX6_commonDivisor 30 = .ok (.lload 6, 2) := by decide +kernel
theorem dX6_commonDivisor_32 : decode cX6_commonDivisor 32 = .ok (.lstore 4, 2) := by decide +kernel
theorem dX6_commonDivisor_34 : decode cX6_commonDivisor 34 = .ok (.lload 9, 2) := by decide +kernel
theorem dX6_commonDivisor_36 : decode cX6_commonDivisor 36 = .ok (.lstore 6, 2) := by decide +kernel
theorem dX6_commonDivisor_38 : decode cX6_commonDivisor 38 = .ok (.iinc 8 1, 3) := by decide +kernel
theorem dX6_commonDivisor_41 : decode cX6_commonDivisor 41 = .ok (.goto (-32), 3) := by decide +kernel
theorem dX6_commonDivisor_44 : decode cX6_commonDivisor 44 = .ok (.lload 4, 2) := by decide +kernel
theorem dX6_commonDivisor_46 : decode cX6_commonDivisor 46 = .ok (.lreturn, 1) := by decide +kernel
set_option maxRecDepth 20000 in
theorem ggX6_runPlan_X2_begin : GoodIn wsX6_runPlan wsX2_begin := goodIn_r _ [9, 10, 11, 12, 13, 14, 15, 16, 86, 87, 88, 89, 90, 91, 92] (by decide +kernel) (by decide +kernel)
set_option maxRecDepth 20000 in
theorem gX6_runPlan_X2_begin : GoodIn wsX6_runPlan (wsV RX6 237 RX2 yX2_begin wsX2_begin) := goodIn_app (goodIn_of _ (by decide +kernel)) ggX6_runPlan_X2_begin
set_option maxRecDepth 20000 in
theorem ggX6_runPlan_X2_ended : GoodIn wsX6_runPlan wsX2_ended := goodIn_r _ [20, 15, 14, 86, 87, 88, 89, 90, 91, 92] (by decide +kernel) (by decide +kernel)
set_option maxRecDepth 20000 in
theorem gX6_runPlan_X2_ended : GoodIn wsX6_runPlan (wsV RX6 240 RX2 yX2_ended wsX2_ended) := goodIn_app (goodIn_of _ (by decide +kernel)) ggX6_runPlan_X2_ended
set_option maxRecDepth 20000 in
theorem ggX6_runPlan_X2_openTick : GoodIn wsX6_runPlan wsX2_openTick := goodIn_r _ [24, 12, 16, 25, 26, 27, 28, 29, 30, 31, 32, 33, 34, 35, 36, 37, 38, 86, 87, 88, 89, 90, 91, 92, 93, 94] (by decide +kernel) (by decide +kernel)
set_option maxRecDepth 20000 in
theorem gX6_runPlan_X2_openTick : GoodIn wsX6_runPlan (wsV RX6 244 RX2 yX2_openTick wsX2_openTick) := goodIn_app (goodIn_of _ (by decide +kernel)) ggX6_runPlan_X2_openTick
set_option maxRecDepth 20000 in
theorem ggX6_runPlan_X2_putSet : GoodIn wsX6_runPlan wsX2_putSet := goodIn_r _ [42, 10, 11, 16, 14, 43, 44, 45, 46, 47, 48, 49, 50, 51, 52, 53, 54, 55, 56, 57, 58, 59, 60, 61, 62, 63, 64, 8, 65, 13, 86, 87, 88, 89, 90, 91, 92, 95, 96, 97, 98, 99, 100] (by decide +kernel) (by decide +kernel)
set_option maxRecDepth 20000 in
theorem gX6_runPlan_X2_putSet : GoodIn wsX6_runPlan (wsV RX6 248 RX2 yX2_putSet wsX2_putSet) := goodIn_app (goodIn_of _ (by decide +kernel)) ggX6_runPlan_X2_putSet
set_option maxRecDepth 20000 in
theorem ggX6_runPlan_X2_spread : GoodIn wsX6_runPlan wsX2_spread := goodIn_r _ [69, 14, 10, 11, 15, 70, 71, 72, 46, 73, 74, 75, 76, 77, 86, 87, 88, 89, 90, 91, 92, 95, 96, 97, 98, 99, 100] (by decide +kernel) (by decide +kernel)
set_option maxRecDepth 20000 in
theorem gX6_runPlan_X2_spread : GoodIn wsX6_runPlan (wsV RX6 252 RX2 yX2_spread wsX2_spread) := goodIn_app (goodIn_of _ (by decide +kernel)) ggX6_runPlan_X2_spread
theorem dX6_runPlan_0 : decode cX6_runPlan 0 = .ok (.aload_n 0, 1) := by decide +kernel
theorem dX6_runPlan_1 : decode cX6_runPlan 1 = .ok (.getfield 30, 3) := by decide +kernel
theorem dX6_runPlan_4 : decode cX6_runPlan 4 = .ok (.iload_n 1, 1) := by decide +kernel
theorem dX6_runPlan_5 : decode cX6_runPlan 5 = .ok (.invokevirtual 237, 3) := by decide +kernel
theorem dX6_runPlan_8 : decode cX6_runPlan 8 = .ok (.iconst 1, 1) := by decide +kernel
theorem dX6_runPlan_9 : decode cX6_runPlan 9 = .ok (.istore_n 3, 1) := by decide +kernel
theorem dX6_runPlan_10 : decode cX6_runPlan 10 = .ok (.iload_n 3, 1) := by decide +kernel
theorem dX6_runPlan_11 : decode cX6_runPlan 11 = .ok (.iload_n 2, 1) := by decide +kernel
theorem dX6_runPlan_12 : decode cX6_runPlan 12 = .ok (.if_icmp .gt 70, 3) := by decide +kernel
theorem dX6_runPlan_15 : decode cX6_runPlan 15 = .ok (.aload_n 0, 1) := by decide +kernel
theorem dX6_runPlan_16 : decode cX6_runPlan 16 = .ok (.getfield 30, 3) := by decide +kernel
theorem dX6_runPlan_19 : decode cX6_runPlan 19 = .ok (.invokevirtual 240, 3) := by decide +kernel
theorem dX6_runPlan_22 : decode cX6_runPlan 22 = .ok (.ifCond .ne 60, 3) := by decide +kernel
theorem dX6_runPlan_25 : decode cX6_runPlan 25 = .ok (.aload_n 0, 1) := by decide +kernel
theorem dX6_runPlan_26 : decode cX6_runPlan 26 = .ok (.getfield 30, 3) := by decide +kernel
theorem dX6_runPlan_29 : decode cX6_runPlan 29 = .ok (.aload_n 0, 1) := by decide +kernel
theorem dX6_runPlan_30 : decode cX6_runPlan 30 = .ok (.getfield 19, 3) := by decide +kernel
theorem dX6_runPlan_33 : decode cX6_runPlan 33 = .ok (.invokevirtual 244, 3) := by decide +kernel
theorem dX6_runPlan_36 : decode cX6_runPlan 36 = .ok (.aload_n 0, 1) := by decide +kernel
theorem dX6_runPlan_37 : decode cX6_runPlan 37 = .ok (.getfield 30, 3) := by decide +kernel
theorem dX6_runPlan_40 : decode cX6_runPlan 40 = .ok (.aload_n 0, 1) := by decide +kernel
theorem dX6_runPlan_41 : decode cX6_runPlan 41 = .ok (.getfield 10, 3) := by decide +kernel
theorem dX6_runPlan_44 : decode cX6_runPlan 44 = .ok (.iload_n 3, 1) := by decide +kernel
theorem dX6_runPlan_45 : decode cX6_runPlan 45 = .ok (.bipush 8, 2) := by decide +kernel
theorem dX6_runPlan_47 : decode cX6_runPlan 47 = .ok (.if_icmp .gt 14, 3) := by decide +kernel
theorem dX6_runPlan_50 : decode cX6_runPlan 50 = .ok (.aload_n 0, 1) := by decide +kernel
theorem dX6_runPlan_51 : decode cX6_runPlan 51 = .ok (.getfield 23, 3) := by decide +kernel
theorem dX6_runPlan_54 : decode cX6_runPlan 54 = .ok (.iload_n 3, 1) := by decide +kernel
theorem dX6_runPlan_55 : decode cX6_runPlan 55 = .ok (.iconst 1, 1) := by decide +kernel
theorem dX6_runPlan_56 : decode cX6_runPlan 56 = .ok (.isub, 1) := by decide +kernel
theorem dX6_runPlan_57 : decode cX6_runPlan 57 = .ok (.iaload, 1) := by decide +kernel
theorem dX6_runPlan_58 : decode cX6_runPlan 58 = .ok (.goto 4, 3) := by decide +kernel
theorem dX6_runPlan_61 : decode cX6_runPlan 61 = .ok (.iconst 0, 1) := by decide +kernel
theorem dX6_runPlan_62 : decode cX6_runPlan 62 = .ok (.invokevirtual 248, 3) := by decide +kernel
theorem dX6_runPlan_65 : decode cX6_runPlan 65 = .ok (.aload_n 0, 1) := by decide +kernel
theorem dX6_runPlan_66 : decode cX6_runPlan 66 = .ok (.getfield 30, 3) := by decide +kernel
theorem dX6_runPlan_69 : decode cX6_runPlan 69 = .ok (.aload_n 0, 1) := by decide +kernel
theorem dX6_runPlan_70 : decode cX6_runPlan 70 = .ok (.getfield 10, 3) := by decide +kernel
theorem dX6_runPlan_73 : decode cX6_runPlan 73 = .ok (.invokevirtual 252, 3) := by decide +kernel
theorem dX6_runPlan_76 : decode cX6_runPlan 76 = .ok (.iinc 3 1, 3) := by decide +kernel
theorem dX6_runPlan_79 : decode cX6_runPlan 79 = .ok (.goto (-69), 3) := by decide +kernel
theorem dX6_runPlan_82 : decode cX6_runPlan 82 = .ok (.return_, 1) := by decide +kernel
set_option maxRecDepth 20000 in
theorem ggX6_runRule_X2_begin : GoodIn wsX6_runRule wsX2_begin := goodIn_r _ [8, 9, 10, 11, 12, 13, 14, 15, 92, 93, 94, 95, 96, 97, 98] (by decide +kernel) (by decide +kernel)
set_option maxRecDepth 20000 in
theorem gX6_runRule_X2_begin : GoodIn wsX6_runRule (wsV RX6 237 RX2 yX2_begin wsX2_begin) := goodIn_app (goodIn_of _ (by decide +kernel)) ggX6_runRule_X2_begin
set_option maxRecDepth 20000 in
theorem ggX6_runRule_X2_ended : GoodIn wsX6_runRule wsX2_ended := goodIn_r _ [19, 14, 13, 92, 93, 94, 95, 96, 97, 98] (by decide +kernel) (by decide +kernel)
set_option maxRecDepth 20000 in
theorem gX6_runRule_X2_ended : GoodIn wsX6_runRule (wsV RX6 240 RX2 yX2_ended wsX2_ended) := goodIn_app (goodIn_of _ (by decide +kernel)) ggX6_runRule_X2_ended
set_option maxRecDepth 20000 in
theorem ggX6_runRule_X2_openTick : GoodIn wsX6_runRule wsX2_openTick := goodIn_r _ [23, 11, 15, 24, 25, 26, 27, 28, 29, 30, 31, 32, 33, 34, 35, 36, 37, 92, 93, 94, 95, 96, 97, 98, 99, 100] (by decide +kernel) (by decide +kernel)
set_option maxRecDepth 20000 in
theorem gX6_runRule_X2_openTick : GoodIn wsX6_runRule (wsV RX6 244 RX2 yX2_openTick wsX2_openTick) := goodIn_app (goodIn_of _ (by decide +kernel)) ggX6_runRule_X2_openTick
set_option maxRecDepth 20000 in
theorem ggX6_runRule_X2_putByRule : GoodIn wsX6_runRule wsX2_putByRule := goodIn_r _ [41, 9, 10, 15, 42, 43, 44, 45, 46, 47, 48, 49, 50, 51, 52, 53, 54, 55, 56, 57, 58, 59, 60, 61, 62, 63, 64, 65, 66, 67, 68, 69, 70, 71, 72, 73, 74, 75, 76, 77, 7, 78, 12, 92, 93, 94, 95, 96, 97, 98, 101, 102, 103, 104, 105, 106] (by decide +kernel) (by decide +kernel)
set_option maxRecDepth 20000 in
theorem gX6_runRule_X2_putByRule : GoodIn wsX6_runRule (wsV RX6 256 RX2 yX2_putByRule wsX2_putByRule) := goodIn_app (goodIn_of _ (by decide +kernel)) ggX6_runRule_X2_putByRule
set_option maxRecDepth 20000 in
theorem ggX6_runRule_X2_spread : GoodIn wsX6_runRule wsX2_spread := goodIn_r _ [82, 13, 9, 10, 14, 83, 49, 50, 45, 51, 52, 53, 54, 55, 92, 93, 94, 95, 96, 97, 98, 101, 102, 103, 104, 105, 106] (by decide +kernel) (by decide +kernel)
set_option maxRecDepth 20000 in
theorem gX6_runRule_X2_spread : GoodIn wsX6_runRule (wsV RX6 252 RX2 yX2_spread wsX2_spread) := goodIn_app (goodIn_of _ (by decide +kernel)) ggX6_runRule_X2_spread
theorem dX6_runRule_0 : decode cX6_runRule 0 = .ok (.aload_n 0, 1) := by decide +kernel
theorem dX6_runRule_1 : decode cX6_runRule 1 = .ok (.getfield 30, 3) := by decide +kernel
theorem dX6_runRule_4 : decode cX6_runRule 4 = .ok (.iload_n 2, 1) := by decide +kernel
theorem dX6_runRule_5 : decode cX6_runRule 5 = .ok (.invokevirtual 237, 3) := by decide +kernel
theorem dX6_runRule_8 : decode cX6_runRule 8 = .ok (.iconst 1, 1) := by decide +kernel
theorem dX6_runRule_9 : decode cX6_runRule 9 = .ok (.istore_n 3, 1) := by decide +kernel
theorem dX6_runRule_10 : decode cX6_runRule 10 = .ok (.iload_n 3, 1) := by decide +kernel
theorem dX6_runRule_11 : decode cX6_runRule 11 = .ok (.bipush 20, 2) := by decide +kernel
theorem dX6_runRule_13 : decode cX6_runRule 13 = .ok (.if_icmp .gt 53, 3) := by decide +kernel
theorem dX6_runRule_16 : decode cX6_runRule 16 = .ok (.aload_n 0, 1) := by decide +kernel
theorem dX6_runRule_17 : decode cX6_runRule 17 = .ok (.getfield 30, 3) := by decide +kernel
theorem dX6_runRule_20 : decode cX6_runRule 20 = .ok (.invokevirtual 240, 3) := by decide +kernel
theorem dX6_runRule_23 : decode cX6_runRule 23 = .ok (.ifCond .ne 43, 3) := by decide +kernel
theorem dX6_runRule_26 : decode cX6_runRule 26 = .ok (.aload_n 0, 1) := by decide +kernel
theorem dX6_runRule_27 : decode cX6_runRule 27 = .ok (.getfield 30, 3) := by decide +kernel
theorem dX6_runRule_30 : decode cX6_runRule 30 = .ok (.aload_n 0, 1) := by decide +kernel
theorem dX6_runRule_31 : decode cX6_runRule 31 = .ok (.getfield 19, 3) := by decide +kernel
theorem dX6_runRule_34 : decode cX6_runRule 34 = .ok (.invokevirtual 244, 3) := by decide +kernel
theorem dX6_runRule_37 : decode cX6_runRule 37 = .ok (.aload_n 0, 1) := by decide +kernel
theorem dX6_runRule_38 : decode cX6_runRule 38 = .ok (.getfield 30, 3) := by decide +kernel
theorem dX6_runRule_41 : decode cX6_runRule 41 = .ok (.aload_n 0, 1) := by decide +kernel
theorem dX6_runRule_42 : decode cX6_runRule 42 = .ok (.getfield 10, 3) := by decide +kernel
theorem dX6_runRule_45 : decode cX6_runRule 45 = .ok (.iload_n 1, 1) := by decide +kernel
theorem dX6_runRule_46 : decode cX6_runRule 46 = .ok (.invokevirtual 256, 3) := by decide +kernel
theorem dX6_runRule_49 : decode cX6_runRule 49 = .ok (.aload_n 0, 1) := by decide +kernel
theorem dX6_runRule_50 : decode cX6_runRule 50 = .ok (.getfield 30, 3) := by decide +kernel
theorem dX6_runRule_53 : decode cX6_runRule 53 = .ok (.aload_n 0, 1) := by decide +kernel
theorem dX6_runRule_54 : decode cX6_runRule 54 = .ok (.getfield 10, 3) := by decide +kernel
theorem dX6_runRule_57 : decode cX6_runRule 57 = .ok (.invokevirtual 252, 3) := by decide +kernel
theorem dX6_runRule_60 : decode cX6_runRule 60 = .ok (.iinc 3 1, 3) := by decide +kernel
theorem dX6_runRule_63 : decode cX6_runRule 63 = .ok (.goto (-53), 3) := by decide +kernel
theorem dX6_runRule_66 : decode cX6_runRule 66 = .ok (.return_, 1) := by decide +kernel
set_option maxRecDepth 20000 in
theorem ggX6_savedByRule_X6_runRule : GoodIn wsX6_savedByRule wsX6_runRule := goodIn_r _ [8, 2, 9, 1, 10, 11, 12, 13, 14, 15, 16, 17, 18, 19, 20, 21, 22, 23, 24, 25, 26, 27, 28, 29, 30, 31, 32, 33, 34, 35, 36, 37, 38, 39, 40, 41, 42, 43, 44, 45, 46, 47, 48, 49, 50, 51, 52, 53, 54, 55, 56, 57, 58, 59, 7, 60, 61, 62, 63, 64, 65, 66, 67, 68, 69, 70, 71, 72, 73, 74, 75, 76, 77, 78, 79, 80, 81, 82, 83, 84, 85, 86, 87, 88, 98, 99, 100, 101, 102, 103, 104, 105, 106, 107, 108, 109, 110, 111, 112, 113, 114, 115, 116, 117, 118, 119, 120] (by decide +kernel) (by decide +kernel)
set_option maxRecDepth 20000 in
theorem gX6_savedByRule_X6_runRule : GoodIn wsX6_savedByRule (wsV RX6 175 RX6 yX6_runRule wsX6_runRule) := goodIn_app (goodIn_of _ (by decide +kernel)) ggX6_savedByRule_X6_runRule
set_option maxRecDepth 20000 in
theorem ggX6_savedByRule_X3_savedFrom : GoodIn wsX6_savedByRule wsX3_savedFrom := goodIn_r _ [92, 65, 93, 94, 95, 51, 96, 97, 77, 78, 79, 115, 116, 117, 118, 119, 120] (by decide +kernel) (by decide +kernel)
set_option maxRecDepth 20000 in
theorem gX6_savedByRule_X3_savedFrom : GoodIn wsX6_savedByRule (wsV RX6 135 RX3 yX3_savedFrom wsX3_savedFrom) := goodIn_app (goodIn_of _ (by decide +kernel)) ggX6_savedByRule_X3_savedFrom
theorem dX6_savedByRule_0 : decode cX6_savedByRule 0 = .ok (.aload_n 0, 1) := by decide +kernel
theorem dX6_savedByRule_1 : decode cX6_savedByRule 1 = .ok (.iload_n 1, 1) := by decide +kernel
theorem dX6_savedByRule_2 : decode cX6_savedByRule 2 = .ok (.iload_n 2, 1) := by decide +kernel
theorem dX6_savedByRule_3 : decode cX6_savedByRule 3 = .ok (.invokevirtual 175, 3) := by decide +kernel
theorem dX6_savedByRule_6 : decode cX6_savedByRule 6 = .ok (.aload_n 0, 1) := by decide +kernel
theorem dX6_savedByRule_7 : decode cX6_savedByRule 7 = .ok (.getfield 10, 3) := by decide +kernel
theorem dX6_savedByRule_10 : decode cX6_savedByRule 10 = .ok (.aload_n 0, 1) := by decide +kernel
theorem dX6_savedByRule_11 : decode cX6_savedByRule 11 = .ok (.getfield 30, 3) := by decide +kernel
theorem dX6_savedByRule_14 : decode cX6_savedByRule 14 = .ok (.getfield 132, 3) := by decide +kernel
theorem dX6_savedByRule_17 : decode cX6_savedByRule 17 = .ok (.invokevirtual 135, 3) := by decide +kernel
theorem dX6_savedByRule_20 : decode cX6_savedByRule 20 = .ok (.ireturn, 1) := by decide +kernel
set_option maxRecDepth 20000 in
theorem ggX6_seekBest_X4_copy : GoodIn wsX6_seekBest wsX4_copy := goodIn_r _ [10, 11, 12, 13, 14, 15, 16, 105, 106] (by decide +kernel) (by decide +kernel)
set_option maxRecDepth 20000 in
theorem gX6_seekBest_X4_copy : GoodIn wsX6_seekBest (wsV RX6 259 RX4 yX4_copy wsX4_copy) := goodIn_app (goodIn_of _ (by decide +kernel)) ggX6_seekBest_X4_copy
set_option maxRecDepth 20000 in
theorem ggX6_seekBest_X5_run : GoodIn wsX6_seekBest wsX5_run := goodIn_r _ [21, 22, 23, 24, 25, 26, 27, 28, 29, 9, 30, 31, 32, 33, 34, 35, 36, 37, 11, 16, 38, 39, 40, 20, 41, 42, 43, 44, 45, 46, 47, 48, 49, 50, 51, 52, 53, 54, 55, 56, 57, 58, 59, 60, 61, 62, 63, 64, 65, 66, 67, 68, 69, 70, 71, 72, 73, 74, 75, 76, 77, 78, 79, 80, 81, 82, 83, 84, 85, 86, 87, 88, 97, 98, 99, 100, 101, 102, 103, 104, 105, 106, 107, 108, 109, 110, 111, 112] (by decide +kernel) (by decide +kernel)
set_option maxRecDepth 20000 in
theorem gX6_seekBest_X5_run : GoodIn wsX6_seekBest (wsV RX6 168 RX5 yX5_run wsX5_run) := goodIn_app (goodIn_of _ (by decide +kernel)) ggX6_seekBest_X5_run
theorem dX6_seekBest_0 : decode cX6_seekBest 0 = .ok (.aload_n 0, 1) := by decide +kernel
theorem dX6_seekBest_1 : decode cX6_seekBest 1 = .ok (.getfield 37, 3) := by decide +kernel
theorem dX6_seekBest_4 : decode cX6_seekBest 4 = .ok (.getfield 165, 3) := by decide +kernel
theorem dX6_seekBest_7 : decode cX6_seekBest 7 = .ok (.aload_n 0, 1) := by decide +kernel
theorem dX6_seekBest_8 : decode cX6_seekBest 8 = .ok (.getfield 19, 3) := by decide +kernel
theorem dX6_seekBest_11 : decode cX6_seekBest 11 = .ok (.invokevirtual 259, 3) := by decide +kernel
theorem dX6_seekBest_14 : decode cX6_seekBest 14 = .ok (.aload_n 0, 1) := by decide +kernel
theorem dX6_seekBest_15 : decode cX6_seekBest 15 = .ok (.getfield 37, 3) := by decide +kernel
theorem dX6_seekBest_18 : decode cX6_seekBest 18 = .ok (.aload_n 0, 1) := by decide +kernel
theorem dX6_seekBest_19 : decode cX6_seekBest 19 = .ok (.getfield 10, 3) := by decide +kernel
theorem dX6_seekBest_22 : decode cX6_seekBest 22 = .ok (.aload_n 0, 1) := by decide +kernel
theorem dX6_seekBest_23 : decode cX6_seekBest 23 = .ok (.getfield 55, 3) := by decide +kernel
theorem dX6_seekBest_26 : decode cX6_seekBest 26 = .ok (.iload_n 1, 1) := by decide +kernel
theorem dX6_seekBest_27 : decode cX6_seekBest 27 = .ok (.invokevirtual 168, 3) := by decide +kernel
theorem dX6_seekBest_30 : decode cX6_seekBest 30 = .ok (.return_, 1) := by decide +kernel
set_option maxRecDepth 20000 in
theorem ggX7_init_X7_clear : GoodIn wsX7_init wsX7_clear := goodIn_r _ [26, 27, 7, 8, 9, 12, 28, 29, 30, 31, 32, 33, 34, 35, 36, 37, 38, 39, 40, 41, 42, 43, 44, 45, 46, 47, 48, 49, 50, 51, 52, 53, 54, 55, 56, 57, 58, 59, 60, 61] (by decide +kernel) (by decide +kernel)
set_option maxRecDepth 20000 in
theorem gX7_init_X7_clear : GoodIn wsX7_init (wsV RX7 62 RX7 yX7_clear wsX7_clear) := goodIn_app (goodIn_of _ (by decide +kernel)) ggX7_init_X7_clear
