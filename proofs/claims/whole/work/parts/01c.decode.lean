theorem dX0_init_0 : decode cX0_init 0 = .ok (.aload_n 0, 1) := by decide +kernel
theorem dX0_init_1 : decode cX0_init 1 = .ok (.invokespecial 5, 3) := by decide +kernel
theorem dX0_init_4 : decode cX0_init 4 = .ok (.aload_n 0, 1) := by decide +kernel
theorem dX0_init_5 : decode cX0_init 5 = .ok (.bipush 40, 2) := by decide +kernel
theorem dX0_init_7 : decode cX0_init 7 = .ok (.newarray .int, 2) := by decide +kernel
theorem dX0_init_9 : decode cX0_init 9 = .ok (.putfield 11, 3) := by decide +kernel
theorem dX0_init_12 : decode cX0_init 12 = .ok (.aload_n 0, 1) := by decide +kernel
theorem dX0_init_13 : decode cX0_init 13 = .ok (.bipush 40, 2) := by decide +kernel
theorem dX0_init_15 : decode cX0_init 15 = .ok (.newarray .int, 2) := by decide +kernel
theorem dX0_init_17 : decode cX0_init 17 = .ok (.putfield 15, 3) := by decide +kernel
theorem dX0_init_20 : decode cX0_init 20 = .ok (.aload_n 0, 1) := by decide +kernel
theorem dX0_init_21 : decode cX0_init 21 = .ok (.bipush 40, 2) := by decide +kernel
theorem dX0_init_23 : decode cX0_init 23 = .ok (.newarray .int, 2) := by decide +kernel
theorem dX0_init_25 : decode cX0_init 25 = .ok (.putfield 18, 3) := by decide +kernel
theorem dX0_init_28 : decode cX0_init 28 = .ok (.aload_n 0, 1) := by decide +kernel
theorem dX0_init_29 : decode cX0_init 29 = .ok (.bipush 49, 2) := by decide +kernel
theorem dX0_init_31 : decode cX0_init 31 = .ok (.newarray .long, 2) := by decide +kernel
theorem dX0_init_33 : decode cX0_init 33 = .ok (.putfield 21, 3) := by decide +kernel
theorem dX0_init_36 : decode cX0_init 36 = .ok (.aload_n 0, 1) := by decide +kernel
theorem dX0_init_37 : decode cX0_init 37 = .ok (.bipush 49, 2) := by decide +kernel
theorem dX0_init_39 : decode cX0_init 39 = .ok (.newarray .long, 2) := by decide +kernel
theorem dX0_init_41 : decode cX0_init 41 = .ok (.putfield 25, 3) := by decide +kernel
theorem dX0_init_44 : decode cX0_init 44 = .ok (.aload_n 0, 1) := by decide +kernel
theorem dX0_init_45 : decode cX0_init 45 = .ok (.bipush 49, 2) := by decide +kernel
theorem dX0_init_47 : decode cX0_init 47 = .ok (.newarray .long, 2) := by decide +kernel
theorem dX0_init_49 : decode cX0_init 49 = .ok (.putfield 28, 3) := by decide +kernel
theorem dX0_init_52 : decode cX0_init 52 = .ok (.return_, 1) := by decide +kernel
theorem dX0_isWall_0 : decode cX0_isWall 0 = .ok (.iconst 0, 1) := by decide +kernel
theorem dX0_isWall_1 : decode cX0_isWall 1 = .ok (.istore_n 3, 1) := by decide +kernel
theorem dX0_isWall_2 : decode cX0_isWall 2 = .ok (.iload_n 3, 1) := by decide +kernel
theorem dX0_isWall_3 : decode cX0_isWall 3 = .ok (.aload_n 0, 1) := by decide +kernel
theorem dX0_isWall_4 : decode cX0_isWall 4 = .ok (.getfield 31, 3) := by decide +kernel
theorem dX0_isWall_7 : decode cX0_isWall 7 = .ok (.if_icmp .ge 37, 3) := by decide +kernel
theorem dX0_isWall_10 : decode cX0_isWall 10 = .ok (.iload_n 3, 1) := by decide +kernel
theorem dX0_isWall_11 : decode cX0_isWall 11 = .ok (.bipush 40, 2) := by decide +kernel
theorem dX0_isWall_13 : decode cX0_isWall 13 = .ok (.if_icmp .ge 31, 3) := by decide +kernel
theorem dX0_isWall_16 : decode cX0_isWall 16 = .ok (.aload_n 0, 1) := by decide +kernel
theorem dX0_isWall_17 : decode cX0_isWall 17 = .ok (.getfield 11, 3) := by decide +kernel
theorem dX0_isWall_20 : decode cX0_isWall 20 = .ok (.iload_n 3, 1) := by decide +kernel
theorem dX0_isWall_21 : decode cX0_isWall 21 = .ok (.iaload, 1) := by decide +kernel
theorem dX0_isWall_22 : decode cX0_isWall 22 = .ok (.iload_n 1, 1) := by decide +kernel
theorem dX0_isWall_23 : decode cX0_isWall 23 = .ok (.if_icmp .ne 15, 3) := by decide +kernel
theorem dX0_isWall_26 : decode cX0_isWall 26 = .ok (.aload_n 0, 1) := by decide +kernel
theorem dX0_isWall_27 : decode cX0_isWall 27 = .ok (.getfield 15, 3) := by decide +kernel
theorem dX0_isWall_30 : decode cX0_isWall 30 = .ok (.iload_n 3, 1) := by decide +kernel
theorem dX0_isWall_31 : decode cX0_isWall 31 = .ok (.iaload, 1) := by decide +kernel
theorem dX0_isWall_32 : decode cX0_isWall 32 = .ok (.iload_n 2, 1) := by decide +kernel
theorem dX0_isWall_33 : decode cX0_isWall 33 = .ok (.if_icmp .ne 5, 3) := by decide +kernel
theorem dX0_isWall_36 : decode cX0_isWall 36 = .ok (.iconst 1, 1) := by decide +kernel
theorem dX0_isWall_37 : decode cX0_isWall 37 = .ok (.ireturn, 1) := by decide +kernel
theorem dX0_isWall_38 : decode cX0_isWall 38 = .ok (.iinc 3 1, 3) := by decide +kernel
theorem dX0_isWall_41 : decode cX0_isWall 41 = .ok (.goto (-39), 3) := by decide +kernel
theorem dX0_isWall_44 : decode cX0_isWall 44 = .ok (.iconst 0, 1) := by decide +kernel
theorem dX0_isWall_45 : decode cX0_isWall 45 = .ok (.ireturn, 1) := by decide +kernel
theorem dX0_add_0 : decode cX0_add 0 = .ok (.aload_n 0, 1) := by decide +kernel
theorem dX0_add_1 : decode cX0_add 1 = .ok (.getfield 31, 3) := by decide +kernel
theorem dX0_add_4 : decode cX0_add 4 = .ok (.ifCond .lt 12, 3) := by decide +kernel
theorem dX0_add_7 : decode cX0_add 7 = .ok (.aload_n 0, 1) := by decide +kernel
theorem dX0_add_8 : decode cX0_add 8 = .ok (.getfield 31, 3) := by decide +kernel
theorem dX0_add_11 : decode cX0_add 11 = .ok (.bipush 40, 2) := by decide +kernel
theorem dX0_add_13 : decode cX0_add 13 = .ok (.if_icmp .lt 7, 3) := by decide +kernel
theorem dX0_add_16 : decode cX0_add 16 = .ok (.sipush (-1004), 3) := by decide +kernel
theorem dX0_add_19 : decode cX0_add 19 = .ok (.ireturn, 1) := by decide +kernel
theorem dX0_add_20 : decode cX0_add 20 = .ok (.aload_n 0, 1) := by decide +kernel
theorem dX0_add_21 : decode cX0_add 21 = .ok (.getfield 11, 3) := by decide +kernel
theorem dX0_add_24 : decode cX0_add 24 = .ok (.aload_n 0, 1) := by decide +kernel
theorem dX0_add_25 : decode cX0_add 25 = .ok (.getfield 31, 3) := by decide +kernel
theorem dX0_add_28 : decode cX0_add 28 = .ok (.iload_n 1, 1) := by decide +kernel
theorem dX0_add_29 : decode cX0_add 29 = .ok (.iastore, 1) := by decide +kernel
theorem dX0_add_30 : decode cX0_add 30 = .ok (.aload_n 0, 1) := by decide +kernel
theorem dX0_add_31 : decode cX0_add 31 = .ok (.getfield 15, 3) := by decide +kernel
theorem dX0_add_34 : decode cX0_add 34 = .ok (.aload_n 0, 1) := by decide +kernel
theorem dX0_add_35 : decode cX0_add 35 = .ok (.getfield 31, 3) := by decide +kernel
theorem dX0_add_38 : decode cX0_add 38 = .ok (.iload_n 2, 1) := by decide +kernel
theorem dX0_add_39 : decode cX0_add 39 = .ok (.iastore, 1) := by decide +kernel
theorem dX0_add_40 : decode cX0_add 40 = .ok (.aload_n 0, 1) := by decide +kernel
theorem dX0_add_41 : decode cX0_add 41 = .ok (.getfield 18, 3) := by decide +kernel
theorem dX0_add_44 : decode cX0_add 44 = .ok (.aload_n 0, 1) := by decide +kernel
theorem dX0_add_45 : decode cX0_add 45 = .ok (.getfield 31, 3) := by decide +kernel
theorem dX0_add_48 : decode cX0_add 48 = .ok (.iload_n 3, 1) := by decide +kernel
theorem dX0_add_49 : decode cX0_add 49 = .ok (.iastore, 1) := by decide +kernel
theorem dX0_add_50 : decode cX0_add 50 = .ok (.aload_n 0, 1) := by decide +kernel
theorem dX0_add_51 : decode cX0_add 51 = .ok (.dup, 1) := by decide +kernel
theorem dX0_add_52 : decode cX0_add 52 = .ok (.getfield 31, 3) := by decide +kernel
theorem dX0_add_55 : decode cX0_add 55 = .ok (.iconst 1, 1) := by decide +kernel
theorem dX0_add_56 : decode cX0_add 56 = .ok (.iadd, 1) := by decide +kernel
theorem dX0_add_57 : decode cX0_add 57 = .ok (.putfield 31, 3) := by decide +kernel
theorem dX0_add_60 : decode cX0_add 60 = .ok (.aload_n 0, 1) := by decide +kernel
theorem dX0_add_61 : decode cX0_add 61 = .ok (.getfield 31, 3) := by decide +kernel
theorem dX0_add_64 : decode cX0_add 64 = .ok (.ireturn, 1) := by decide +kernel
theorem dX0_needed_0 : decode cX0_needed 0 = .ok (.iconst 0, 1) := by decide +kernel
theorem dX0_needed_1 : decode cX0_needed 1 = .ok (.istore_n 1, 1) := by decide +kernel
theorem dX0_needed_2 : decode cX0_needed 2 = .ok (.iconst 1, 1) := by decide +kernel
theorem dX0_needed_3 : decode cX0_needed 3 = .ok (.istore_n 2, 1) := by decide +kernel
theorem dX0_needed_4 : decode cX0_needed 4 = .ok (.iload_n 2, 1) := by decide +kernel
theorem dX0_needed_5 : decode cX0_needed 5 = .ok (.bipush 20, 2) := by decide +kernel
theorem dX0_needed_7 : decode cX0_needed 7 = .ok (.if_icmp .gt 56, 3) := by decide +kernel
theorem dX0_needed_10 : decode cX0_needed 10 = .ok (.iconst 0, 1) := by decide +kernel
theorem dX0_needed_11 : decode cX0_needed 11 = .ok (.istore_n 3, 1) := by decide +kernel
theorem dX0_needed_12 : decode cX0_needed 12 = .ok (.iconst 0, 1) := by decide +kernel
theorem dX0_needed_13 : decode cX0_needed 13 = .ok (.istore 4, 2) := by decide +kernel
theorem dX0_needed_15 : decode cX0_needed 15 = .ok (.iload 4, 2) := by decide +kernel
theorem dX0_needed_17 : decode cX0_needed 17 = .ok (.aload_n 0, 1) := by decide +kernel
theorem dX0_needed_18 : decode cX0_needed 18 = .ok (.getfield 31, 3) := by decide +kernel
theorem dX0_needed_21 : decode cX0_needed 21 = .ok (.if_icmp .ge 30, 3) := by decide +kernel
theorem dX0_needed_24 : decode cX0_needed 24 = .ok (.iload 4, 2) := by decide +kernel
theorem dX0_needed_26 : decode cX0_needed 26 = .ok (.bipush 40, 2) := by decide +kernel
theorem dX0_needed_28 : decode cX0_needed 28 = .ok (.if_icmp .ge 23, 3) := by decide +kernel
theorem dX0_needed_31 : decode cX0_needed 31 = .ok (.aload_n 0, 1) := by decide +kernel
theorem dX0_needed_32 : decode cX0_needed 32 = .ok (.getfield 18, 3) := by decide +kernel
theorem dX0_needed_35 : decode cX0_needed 35 = .ok (.iload 4, 2) := by decide +kernel
theorem dX0_needed_37 : decode cX0_needed 37 = .ok (.iaload, 1) := by decide +kernel
theorem dX0_needed_38 : decode cX0_needed 38 = .ok (.iload_n 2, 1) := by decide +kernel
theorem dX0_needed_39 : decode cX0_needed 39 = .ok (.if_icmp .ne 6, 3) := by decide +kernel
theorem dX0_needed_42 : decode cX0_needed 42 = .ok (.iinc 3 1, 3) := by decide +kernel
theorem dX0_needed_45 : decode cX0_needed 45 = .ok (.iinc 4 1, 3) := by decide +kernel
theorem dX0_needed_48 : decode cX0_needed 48 = .ok (.goto (-33), 3) := by decide +kernel
theorem dX0_needed_51 : decode cX0_needed 51 = .ok (.iload_n 1, 1) := by decide +kernel
theorem dX0_needed_52 : decode cX0_needed 52 = .ok (.iload_n 3, 1) := by decide +kernel
theorem dX0_needed_53 : decode cX0_needed 53 = .ok (.invokestatic 35, 3) := by decide +kernel
theorem dX0_needed_56 : decode cX0_needed 56 = .ok (.istore_n 1, 1) := by decide +kernel
theorem dX0_needed_57 : decode cX0_needed 57 = .ok (.iinc 2 1, 3) := by decide +kernel
theorem dX0_needed_60 : decode cX0_needed 60 = .ok (.goto (-56), 3) := by decide +kernel
theorem dX0_needed_63 : decode cX0_needed 63 = .ok (.iload_n 1, 1) := by decide +kernel
theorem dX0_needed_64 : decode cX0_needed 64 = .ok (.ireturn, 1) := by decide +kernel
set_option maxRecDepth 20000 in
theorem ggX0_burn_J7_fill_d0a16 : GoodIn wsX0_burn wsJ7_fill_d0a16 := goodIn_r _ [9] (by decide +kernel) (by decide +kernel)
set_option maxRecDepth 20000 in
theorem gX0_burn_J7_fill_d0a16 : GoodIn wsX0_burn (va_wsS RX0 41 yJ7_fill_d0a16 wsJ7_fill_d0a16) := goodIn_app (goodIn_of _ (by decide +kernel)) ggX0_burn_J7_fill_d0a16
set_option maxRecDepth 20000 in
theorem ggX0_burn_X0_putGuards : GoodIn wsX0_burn wsX0_putGuards := goodIn_r _ [14, 15, 16, 17, 18, 19, 20, 13, 21, 22, 23, 24, 25, 26, 27, 28, 1, 5, 2, 43, 44, 45, 46, 47, 48, 49, 50, 51] (by decide +kernel) (by decide +kernel)
set_option maxRecDepth 20000 in
theorem gX0_burn_X0_putGuards : GoodIn wsX0_burn (wsV RX0 55 RX0 yX0_putGuards wsX0_putGuards) := goodIn_app (goodIn_of _ (by decide +kernel)) ggX0_burn_X0_putGuards
set_option maxRecDepth 20000 in
theorem ggX0_burn_X0_spread : GoodIn wsX0_burn wsX0_spread := goodIn_r _ [32, 1, 33, 2, 34, 35, 36, 37, 38, 39, 40, 41, 13, 42, 43, 44, 45, 46, 47, 48, 49, 50, 51] (by decide +kernel) (by decide +kernel)
set_option maxRecDepth 20000 in
theorem gX0_burn_X0_spread : GoodIn wsX0_burn (wsV RX0 59 RX0 yX0_spread wsX0_spread) := goodIn_app (goodIn_of _ (by decide +kernel)) ggX0_burn_X0_spread
theorem dX0_burn_0 : decode cX0_burn 0 = .ok (.aload_n 0, 1) := by decide +kernel
theorem dX0_burn_1 : decode cX0_burn 1 = .ok (.getfield 21, 3) := by decide +kernel
theorem dX0_burn_4 : decode cX0_burn 4 = .ok (.lconst 0, 1) := by decide +kernel
theorem dX0_burn_5 : decode cX0_burn 5 = .ok (.invokestatic 41, 3) := by decide +kernel
theorem dX0_burn_8 : decode cX0_burn 8 = .ok (.aload_n 0, 1) := by decide +kernel
theorem dX0_burn_9 : decode cX0_burn 9 = .ok (.getfield 28, 3) := by decide +kernel
theorem dX0_burn_12 : decode cX0_burn 12 = .ok (.lconst 0, 1) := by decide +kernel
theorem dX0_burn_13 : decode cX0_burn 13 = .ok (.invokestatic 41, 3) := by decide +kernel
theorem dX0_burn_16 : decode cX0_burn 16 = .ok (.aload_n 0, 1) := by decide +kernel
theorem dX0_burn_17 : decode cX0_burn 17 = .ok (.getfield 21, 3) := by decide +kernel
theorem dX0_burn_20 : decode cX0_burn 20 = .ok (.bipush 24, 2) := by decide +kernel
theorem dX0_burn_22 : decode cX0_burn 22 = .ok (.ldc2_w 47, 3) := by decide +kernel
theorem dX0_burn_25 : decode cX0_burn 25 = .ok (.lastore, 1) := by decide +kernel
theorem dX0_burn_26 : decode cX0_burn 26 = .ok (.aload_n 0, 1) := by decide +kernel
theorem dX0_burn_27 : decode cX0_burn 27 = .ok (.iconst (-1), 1) := by decide +kernel
theorem dX0_burn_28 : decode cX0_burn 28 = .ok (.putfield 49, 3) := by decide +kernel
theorem dX0_burn_31 : decode cX0_burn 31 = .ok (.aload_n 0, 1) := by decide +kernel
theorem dX0_burn_32 : decode cX0_burn 32 = .ok (.iconst 0, 1) := by decide +kernel
theorem dX0_burn_33 : decode cX0_burn 33 = .ok (.putfield 52, 3) := by decide +kernel
theorem dX0_burn_36 : decode cX0_burn 36 = .ok (.iconst 1, 1) := by decide +kernel
theorem dX0_burn_37 : decode cX0_burn 37 = .ok (.istore_n 1, 1) := by decide +kernel
theorem dX0_burn_38 : decode cX0_burn 38 = .ok (.iload_n 1, 1) := by decide +kernel
theorem dX0_burn_39 : decode cX0_burn 39 = .ok (.bipush 24, 2) := by decide +kernel
theorem dX0_burn_41 : decode cX0_burn 41 = .ok (.if_icmp .gt 34, 3) := by decide +kernel
theorem dX0_burn_44 : decode cX0_burn 44 = .ok (.aload_n 0, 1) := by decide +kernel
theorem dX0_burn_45 : decode cX0_burn 45 = .ok (.getfield 49, 3) := by decide +kernel
theorem dX0_burn_48 : decode cX0_burn 48 = .ok (.iconst (-1), 1) := by decide +kernel
theorem dX0_burn_49 : decode cX0_burn 49 = .ok (.if_icmp .ne 26, 3) := by decide +kernel
theorem dX0_burn_52 : decode cX0_burn 52 = .ok (.aload_n 0, 1) := by decide +kernel
theorem dX0_burn_53 : decode cX0_burn 53 = .ok (.iload_n 1, 1) := by decide +kernel
theorem dX0_burn_54 : decode cX0_burn 54 = .ok (.invokevirtual 55, 3) := by decide +kernel
theorem dX0_burn_57 : decode cX0_burn 57 = .ok (.aload_n 0, 1) := by decide +kernel
theorem dX0_burn_58 : decode cX0_burn 58 = .ok (.invokevirtual 59, 3) := by decide +kernel
theorem dX0_burn_61 : decode cX0_burn 61 = .ok (.ifCond .ne 8, 3) := by decide +kernel
theorem dX0_burn_64 : decode cX0_burn 64 = .ok (.aload_n 0, 1) := by decide +kernel
theorem dX0_burn_65 : decode cX0_burn 65 = .ok (.iload_n 1, 1) := by decide +kernel
theorem dX0_burn_66 : decode cX0_burn 66 = .ok (.putfield 49, 3) := by decide +kernel
theorem dX0_burn_69 : decode cX0_burn 69 = .ok (.iinc 1 1, 3) := by decide +kernel
theorem dX0_burn_72 : decode cX0_burn 72 = .ok (.goto (-34), 3) := by decide +kernel
theorem dX0_burn_75 : decode cX0_burn 75 = .ok (.return_, 1) := by decide +kernel
set_option maxRecDepth 20000 in
theorem ggX0_putGuards_X0_onRows : GoodIn wsX0_putGuards wsX0_onRows := goodIn_r _ [8, 9, 10, 11] (by decide +kernel) (by decide +kernel)
set_option maxRecDepth 20000 in
theorem gX0_putGuards_X0_onRows : GoodIn wsX0_putGuards (va_wsS RX0 63 yX0_onRows wsX0_onRows) := goodIn_app (goodIn_of _ (by decide +kernel)) ggX0_putGuards_X0_onRows
set_option maxRecDepth 20000 in
theorem ggX0_putGuards_X0_putGuard : GoodIn wsX0_putGuards wsX0_putGuard := goodIn_r _ [15, 16, 17, 18, 19, 20, 21, 22, 23, 24, 25, 26, 27] (by decide +kernel) (by decide +kernel)
set_option maxRecDepth 20000 in
theorem gX0_putGuards_X0_putGuard : GoodIn wsX0_putGuards (wsV RX0 67 RX0 yX0_putGuard wsX0_putGuard) := goodIn_app (goodIn_of _ (by decide +kernel)) ggX0_putGuards_X0_putGuard
theorem dX0_putGuards_0 : decode cX0_putGuards 0 = .ok (.iconst 0, 1) := by decide +kernel
theorem dX0_putGuards_1 : decode cX0_putGuards 1 = .ok (.istore_n 2, 1) := by decide +kernel
theorem dX0_putGuards_2 : decode cX0_putGuards 2 = .ok (.iload_n 2, 1) := by decide +kernel
theorem dX0_putGuards_3 : decode cX0_putGuards 3 = .ok (.aload_n 0, 1) := by decide +kernel
theorem dX0_putGuards_4 : decode cX0_putGuards 4 = .ok (.getfield 31, 3) := by decide +kernel
theorem dX0_putGuards_7 : decode cX0_putGuards 7 = .ok (.if_icmp .ge 73, 3) := by decide +kernel
theorem dX0_putGuards_10 : decode cX0_putGuards 10 = .ok (.iload_n 2, 1) := by decide +kernel
theorem dX0_putGuards_11 : decode cX0_putGuards 11 = .ok (.bipush 40, 2) := by decide +kernel
theorem dX0_putGuards_13 : decode cX0_putGuards 13 = .ok (.if_icmp .ge 67, 3) := by decide +kernel
theorem dX0_putGuards_16 : decode cX0_putGuards 16 = .ok (.aload_n 0, 1) := by decide +kernel
theorem dX0_putGuards_17 : decode cX0_putGuards 17 = .ok (.getfield 18, 3) := by decide +kernel
theorem dX0_putGuards_20 : decode cX0_putGuards 20 = .ok (.iload_n 2, 1) := by decide +kernel
theorem dX0_putGuards_21 : decode cX0_putGuards 21 = .ok (.iaload, 1) := by decide +kernel
theorem dX0_putGuards_22 : decode cX0_putGuards 22 = .ok (.iload_n 1, 1) := by decide +kernel
theorem dX0_putGuards_23 : decode cX0_putGuards 23 = .ok (.if_icmp .ne 51, 3) := by decide +kernel
theorem dX0_putGuards_26 : decode cX0_putGuards 26 = .ok (.aload_n 0, 1) := by decide +kernel
theorem dX0_putGuards_27 : decode cX0_putGuards 27 = .ok (.getfield 11, 3) := by decide +kernel
theorem dX0_putGuards_30 : decode cX0_putGuards 30 = .ok (.iload_n 2, 1) := by decide +kernel
theorem dX0_putGuards_31 : decode cX0_putGuards 31 = .ok (.iaload, 1) := by decide +kernel
theorem dX0_putGuards_32 : decode cX0_putGuards 32 = .ok (.invokestatic 63, 3) := by decide +kernel
theorem dX0_putGuards_35 : decode cX0_putGuards 35 = .ok (.ifCond .eq 39, 3) := by decide +kernel
theorem dX0_putGuards_38 : decode cX0_putGuards 38 = .ok (.aload_n 0, 1) := by decide +kernel
theorem dX0_putGuards_39 : decode cX0_putGuards 39 = .ok (.getfield 15, 3) := by decide +kernel
theorem dX0_putGuards_42 : decode cX0_putGuards 42 = .ok (.iload_n 2, 1) := by decide +kernel
theorem dX0_putGuards_43 : decode cX0_putGuards 43 = .ok (.iaload, 1) := by decide +kernel
theorem dX0_putGuards_44 : decode cX0_putGuards 44 = .ok (.invokestatic 63, 3) := by decide +kernel
theorem dX0_putGuards_47 : decode cX0_putGuards 47 = .ok (.ifCond .eq 27, 3) := by decide +kernel
theorem dX0_putGuards_50 : decode cX0_putGuards 50 = .ok (.aload_n 0, 1) := by decide +kernel
theorem dX0_putGuards_51 : decode cX0_putGuards 51 = .ok (.aload_n 0, 1) := by decide +kernel
theorem dX0_putGuards_52 : decode cX0_putGuards 52 = .ok (.getfield 15, 3) := by decide +kernel
theorem dX0_putGuards_55 : decode cX0_putGuards 55 = .ok (.iload_n 2, 1) := by decide +kernel
theorem dX0_putGuards_56 : decode cX0_putGuards 56 = .ok (.iaload, 1) := by decide +kernel
theorem dX0_putGuards_57 : decode cX0_putGuards 57 = .ok (.bipush 24, 2) := by decide +kernel
theorem dX0_putGuards_59 : decode cX0_putGuards 59 = .ok (.iadd, 1) := by decide +kernel
theorem dX0_putGuards_60 : decode cX0_putGuards 60 = .ok (.lconst 1, 1) := by decide +kernel
theorem dX0_putGuards_61 : decode cX0_putGuards 61 = .ok (.aload_n 0, 1) := by decide +kernel
theorem dX0_putGuards_62 : decode cX0_putGuards 62 = .ok (.getfield 11, 3) := by decide +kernel
theorem dX0_putGuards_65 : decode cX0_putGuards 65 = .ok (.iload_n 2, 1) := by decide +kernel
theorem dX0_putGuards_66 : decode cX0_putGuards 66 = .ok (.iaload, 1) := by decide +kernel
theorem dX0_putGuards_67 : decode cX0_putGuards 67 = .ok (.bipush 24, 2) := by decide +kernel
theorem dX0_putGuards_69 : decode cX0_putGuards 69 = .ok (.iadd, 1) := by decide +kernel
theorem dX0_putGuards_70 : decode cX0_putGuards 70 = .ok (.lshl, 1) := by decide +kernel
theorem dX0_putGuards_71 : decode cX0_putGuards 71 = .ok (.invokevirtual 67, 3) := by decide +kernel
theorem dX0_putGuards_74 : decode cX0_putGuards 74 = .ok (.iinc 2 1, 3) := by decide +kernel
theorem dX0_putGuards_77 : decode cX0_putGuards 77 = .ok (.goto (-75), 3) := by decide +kernel
theorem dX0_putGuards_80 : decode cX0_putGuards 80 = .ok (.return_, 1) := by decide +kernel
set_option maxRecDepth 20000 in
theorem ggX0_onRows_X6_within : GoodIn wsX0_onRows wsX6_within := goodIn_r _ [3] (by decide +kernel) (by decide +kernel)
set_option maxRecDepth 20000 in
theorem gX0_onRows_X6_within_n71 : GoodIn wsX0_onRows (wsX6_within) := ggX0_onRows_X6_within
theorem dX0_onRows_0 : decode cX0_onRows 0 = .ok (.iload_n 0, 1) := by decide +kernel
theorem dX0_onRows_1 : decode cX0_onRows 1 = .ok (.bipush (-24), 2) := by decide +kernel
theorem dX0_onRows_3 : decode cX0_onRows 3 = .ok (.bipush 24, 2) := by decide +kernel
theorem dX0_onRows_5 : decode cX0_onRows 5 = .ok (.invokestatic 71, 3) := by decide +kernel
theorem dX0_onRows_8 : decode cX0_onRows 8 = .ok (.ireturn, 1) := by decide +kernel
theorem dX0_putGuard_0 : decode cX0_putGuard 0 = .ok (.iload_n 1, 1) := by decide +kernel
theorem dX0_putGuard_1 : decode cX0_putGuard 1 = .ok (.ifCond .lt 9, 3) := by decide +kernel
theorem dX0_putGuard_4 : decode cX0_putGuard 4 = .ok (.iload_n 1, 1) := by decide +kernel
theorem dX0_putGuard_5 : decode cX0_putGuard 5 = .ok (.bipush 49, 2) := by decide +kernel
theorem dX0_putGuard_7 : decode cX0_putGuard 7 = .ok (.if_icmp .lt 4, 3) := by decide +kernel
theorem dX0_putGuard_10 : decode cX0_putGuard 10 = .ok (.return_, 1) := by decide +kernel
theorem dX0_putGuard_11 : decode cX0_putGuard 11 = .ok (.aload_n 0, 1) := by decide +kernel
theorem dX0_putGuard_12 : decode cX0_putGuard 12 = .ok (.getfield 21, 3) := by decide +kernel
theorem dX0_putGuard_15 : decode cX0_putGuard 15 = .ok (.iload_n 1, 1) := by decide +kernel
theorem dX0_putGuard_16 : decode cX0_putGuard 16 = .ok (.laload, 1) := by decide +kernel
theorem dX0_putGuard_17 : decode cX0_putGuard 17 = .ok (.lload_n 2, 1) := by decide +kernel
theorem dX0_putGuard_18 : decode cX0_putGuard 18 = .ok (.land, 1) := by decide +kernel
theorem dX0_putGuard_19 : decode cX0_putGuard 19 = .ok (.lconst 0, 1) := by decide +kernel
theorem dX0_putGuard_20 : decode cX0_putGuard 20 = .ok (.lcmp, 1) := by decide +kernel
theorem dX0_putGuard_21 : decode cX0_putGuard 21 = .ok (.ifCond .eq 16, 3) := by decide +kernel
theorem dX0_putGuard_24 : decode cX0_putGuard 24 = .ok (.aload_n 0, 1) := by decide +kernel
theorem dX0_putGuard_25 : decode cX0_putGuard 25 = .ok (.dup, 1) := by decide +kernel
theorem dX0_putGuard_26 : decode cX0_putGuard 26 = .ok (.getfield 52, 3) := by decide +kernel
theorem dX0_putGuard_29 : decode cX0_putGuard 29 = .ok (.iconst 1, 1) := by decide +kernel
theorem dX0_putGuard_30 : decode cX0_putGuard 30 = .ok (.iadd, 1) := by decide +kernel
theorem dX0_putGuard_31 : decode cX0_putGuard 31 = .ok (.putfield 52, 3) := by decide +kernel
theorem dX0_putGuard_34 : decode cX0_putGuard 34 = .ok (.goto 13, 3) := by decide +kernel
theorem dX0_putGuard_37 : decode cX0_putGuard 37 = .ok (.aload_n 0, 1) := by decide +kernel
theorem dX0_putGuard_38 : decode cX0_putGuard 38 = .ok (.getfield 28, 3) := by decide +kernel
theorem dX0_putGuard_41 : decode cX0_putGuard 41 = .ok (.iload_n 1, 1) := by decide +kernel
theorem dX0_putGuard_42 : decode cX0_putGuard 42 = .ok (.dup2, 1) := by decide +kernel
theorem dX0_putGuard_43 : decode cX0_putGuard 43 = .ok (.laload, 1) := by decide +kernel
theorem dX0_putGuard_44 : decode cX0_putGuard 44 = .ok (.lload_n 2, 1) := by decide +kernel
theorem dX0_putGuard_45 : decode cX0_putGuard 45 = .ok (.lor, 1) := by decide +kernel
theorem dX0_putGuard_46 : decode cX0_putGuard 46 = .ok (.lastore, 1) := by decide +kernel
theorem dX0_putGuard_47 : decode cX0_putGuard 47 = .ok (.return_, 1) := by decide +kernel
set_option maxRecDepth 20000 in
theorem ggX0_spread_X0_rowAt : GoodIn wsX0_spread wsX0_rowAt := goodIn_r _ [13, 1, 14, 15, 16, 17, 18, 19, 20, 21, 22] (by decide +kernel) (by decide +kernel)
set_option maxRecDepth 20000 in
theorem gX0_spread_X0_rowAt : GoodIn wsX0_spread (wsV RX0 75 RX0 yX0_rowAt wsX0_rowAt) := goodIn_app (goodIn_of _ (by decide +kernel)) ggX0_spread_X0_rowAt
theorem dX0_spread_0 : decode cX0_spread 0 = .ok (.iconst 0, 1) := by decide +kernel
theorem dX0_spread_1 : decode cX0_spread 1 = .ok (.istore_n 1, 1) := by decide +kernel
theorem dX0_spread_2 : decode cX0_spread 2 = .ok (.iconst 0, 1) := by decide +kernel
theorem dX0_spread_3 : decode cX0_spread 3 = .ok (.istore_n 2, 1) := by decide +kernel
theorem dX0_spread_4 : decode cX0_spread 4 = .ok (.iload_n 2, 1) := by decide +kernel
theorem dX0_spread_5 : decode cX0_spread 5 = .ok (.bipush 49, 2) := by decide +kernel
theorem dX0_spread_7 : decode cX0_spread 7 = .ok (.if_icmp .ge 75, 3) := by decide +kernel
theorem dX0_spread_10 : decode cX0_spread 10 = .ok (.aload_n 0, 1) := by decide +kernel
theorem dX0_spread_11 : decode cX0_spread 11 = .ok (.getfield 21, 3) := by decide +kernel
theorem dX0_spread_14 : decode cX0_spread 14 = .ok (.iload_n 2, 1) := by decide +kernel
theorem dX0_spread_15 : decode cX0_spread 15 = .ok (.laload, 1) := by decide +kernel
theorem dX0_spread_16 : decode cX0_spread 16 = .ok (.lstore_n 3, 1) := by decide +kernel
theorem dX0_spread_17 : decode cX0_spread 17 = .ok (.lload_n 3, 1) := by decide +kernel
theorem dX0_spread_18 : decode cX0_spread 18 = .ok (.iconst 1, 1) := by decide +kernel
theorem dX0_spread_19 : decode cX0_spread 19 = .ok (.lshl, 1) := by decide +kernel
theorem dX0_spread_20 : decode cX0_spread 20 = .ok (.lload_n 3, 1) := by decide +kernel
theorem dX0_spread_21 : decode cX0_spread 21 = .ok (.iconst 1, 1) := by decide +kernel
theorem dX0_spread_22 : decode cX0_spread 22 = .ok (.lushr, 1) := by decide +kernel
theorem dX0_spread_23 : decode cX0_spread 23 = .ok (.lor, 1) := by decide +kernel
theorem dX0_spread_24 : decode cX0_spread 24 = .ok (.aload_n 0, 1) := by decide +kernel
theorem dX0_spread_25 : decode cX0_spread 25 = .ok (.iload_n 2, 1) := by decide +kernel
theorem dX0_spread_26 : decode cX0_spread 26 = .ok (.iconst 1, 1) := by decide +kernel
theorem dX0_spread_27 : decode cX0_spread 27 = .ok (.isub, 1) := by decide +kernel
theorem dX0_spread_28 : decode cX0_spread 28 = .ok (.invokevirtual 75, 3) := by decide +kernel
theorem dX0_spread_31 : decode cX0_spread 31 = .ok (.lor, 1) := by decide +kernel
theorem dX0_spread_32 : decode cX0_spread 32 = .ok (.aload_n 0, 1) := by decide +kernel
theorem dX0_spread_33 : decode cX0_spread 33 = .ok (.iload_n 2, 1) := by decide +kernel
theorem dX0_spread_34 : decode cX0_spread 34 = .ok (.iconst 1, 1) := by decide +kernel
theorem dX0_spread_35 : decode cX0_spread 35 = .ok (.iadd, 1) := by decide +kernel
theorem dX0_spread_36 : decode cX0_spread 36 = .ok (.invokevirtual 75, 3) := by decide +kernel
theorem dX0_spread_39 : decode cX0_spread 39 = .ok (.lor, 1) := by decide +kernel
theorem dX0_spread_40 : decode cX0_spread 40 = .ok (.lstore 5, 2) := by decide +kernel
theorem dX0_spread_42 : decode cX0_spread 42 = .ok (.aload_n 0, 1) := by decide +kernel
theorem dX0_spread_43 : decode cX0_spread 43 = .ok (.getfield 25, 3) := by decide +kernel
theorem dX0_spread_46 : decode cX0_spread 46 = .ok (.iload_n 2, 1) := by decide +kernel
theorem dX0_spread_47 : decode cX0_spread 47 = .ok (.lload_n 3, 1) := by decide +kernel
theorem dX0_spread_48 : decode cX0_spread 48 = .ok (.lload 5, 2) := by decide +kernel
theorem dX0_spread_50 : decode cX0_spread 50 = .ok (.aload_n 0, 1) := by decide +kernel
theorem dX0_spread_51 : decode cX0_spread 51 = .ok (.getfield 28, 3) := by decide +kernel
theorem dX0_spread_54 : decode cX0_spread 54 = .ok (.iload_n 2, 1) := by decide +kernel
theorem dX0_spread_55 : decode cX0_spread 55 = .ok (.laload, 1) := by decide +kernel
theorem dX0_spread_56 : decode cX0_spread 56 = .ok (.ldc2_w 79, 3) := by decide +kernel
theorem dX0_spread_59 : decode cX0_spread 59 = .ok (.lxor, 1) := by decide +kernel
theorem dX0_spread_60 : decode cX0_spread 60 = .ok (.land, 1) := by decide +kernel
theorem dX0_spread_61 : decode cX0_spread 61 = .ok (.lor, 1) := by decide +kernel
theorem dX0_spread_62 : decode cX0_spread 62 = .ok (.lastore, 1) := by decide +kernel
theorem dX0_spread_63 : decode cX0_spread 63 = .ok (.aload_n 0, 1) := by decide +kernel
theorem dX0_spread_64 : decode cX0_spread 64 = .ok (.getfield 25, 3) := by decide +kernel
theorem dX0_spread_67 : decode cX0_spread 67 = .ok (.iload_n 2, 1) := by decide +kernel
theorem dX0_spread_68 : decode cX0_spread 68 = .ok (.laload, 1) := by decide +kernel
theorem dX0_spread_69 : decode cX0_spread 69 = .ok (.lload_n 3, 1) := by decide +kernel
theorem dX0_spread_70 : decode cX0_spread 70 = .ok (.lcmp, 1) := by decide +kernel
theorem dX0_spread_71 : decode cX0_spread 71 = .ok (.ifCond .eq 5, 3) := by decide +kernel
theorem dX0_spread_74 : decode cX0_spread 74 = .ok (.iconst 1, 1) := by decide +kernel
theorem dX0_spread_75 : decode cX0_spread 75 = .ok (.istore_n 1, 1) := by decide +kernel
theorem dX0_spread_76 : decode cX0_spread 76 = .ok (.iinc 2 1, 3) := by decide +kernel
theorem dX0_spread_79 : decode cX0_spread 79 = .ok (.goto (-75), 3) := by decide +kernel
theorem dX0_spread_82 : decode cX0_spread 82 = .ok (.aload_n 0, 1) := by decide +kernel
theorem dX0_spread_83 : decode cX0_spread 83 = .ok (.getfield 25, 3) := by decide +kernel
theorem dX0_spread_86 : decode cX0_spread 86 = .ok (.iconst 0, 1) := by decide +kernel
theorem dX0_spread_87 : decode cX0_spread 87 = .ok (.aload_n 0, 1) := by decide +kernel
theorem dX0_spread_88 : decode cX0_spread 88 = .ok (.getfield 21, 3) := by decide +kernel
theorem dX0_spread_91 : decode cX0_spread 91 = .ok (.iconst 0, 1) := by decide +kernel
theorem dX0_spread_92 : decode cX0_spread 92 = .ok (.bipush 49, 2) := by decide +kernel
theorem dX0_spread_94 : decode cX0_spread 94 = .ok (.invokestatic 81, 3) := by decide +kernel
theorem dX0_spread_97 : decode cX0_spread 97 = .ok (.iload_n 1, 1) := by decide +kernel
theorem dX0_spread_98 : decode cX0_spread 98 = .ok (.ireturn, 1) := by decide +kernel
theorem dX0_rowAt_0 : decode cX0_rowAt 0 = .ok (.iload_n 1, 1) := by decide +kernel
theorem dX0_rowAt_1 : decode cX0_rowAt 1 = .ok (.ifCond .lt 9, 3) := by decide +kernel
theorem dX0_rowAt_4 : decode cX0_rowAt 4 = .ok (.iload_n 1, 1) := by decide +kernel
theorem dX0_rowAt_5 : decode cX0_rowAt 5 = .ok (.bipush 49, 2) := by decide +kernel
theorem dX0_rowAt_7 : decode cX0_rowAt 7 = .ok (.if_icmp .lt 7, 3) := by decide +kernel
theorem dX0_rowAt_10 : decode cX0_rowAt 10 = .ok (.lconst 0, 1) := by decide +kernel
theorem dX0_rowAt_11 : decode cX0_rowAt 11 = .ok (.goto 9, 3) := by decide +kernel
theorem dX0_rowAt_14 : decode cX0_rowAt 14 = .ok (.aload_n 0, 1) := by decide +kernel
theorem dX0_rowAt_15 : decode cX0_rowAt 15 = .ok (.getfield 21, 3) := by decide +kernel
theorem dX0_rowAt_18 : decode cX0_rowAt 18 = .ok (.iload_n 1, 1) := by decide +kernel
theorem dX0_rowAt_19 : decode cX0_rowAt 19 = .ok (.laload, 1) := by decide +kernel
theorem dX0_rowAt_20 : decode cX0_rowAt 20 = .ok (.lreturn, 1) := by decide +kernel
set_option maxRecDepth 20000 in
theorem ggX0_burnt_J13_bitCount_95d88 : GoodIn wsX0_burnt wsJ13_bitCount_95d88 := goodIn_r _ [5, 6, 7, 8] (by decide +kernel) (by decide +kernel)
set_option maxRecDepth 20000 in
theorem gX0_burnt_J13_bitCount_95d88 : GoodIn wsX0_burnt (va_wsS RX0 87 yJ13_bitCount_95d88 wsJ13_bitCount_95d88) := goodIn_app (goodIn_of _ (by decide +kernel)) ggX0_burnt_J13_bitCount_95d88
theorem dX0_burnt_0 : decode cX0_burnt 0 = .ok (.iconst 0, 1) := by decide +kernel
theorem dX0_burnt_1 : decode cX0_burnt 1 = .ok (.istore_n 1, 1) := by decide +kernel
theorem dX0_burnt_2 : decode cX0_burnt 2 = .ok (.iconst 0, 1) := by decide +kernel
theorem dX0_burnt_3 : decode cX0_burnt 3 = .ok (.istore_n 2, 1) := by decide +kernel
theorem dX0_burnt_4 : decode cX0_burnt 4 = .ok (.iload_n 2, 1) := by decide +kernel
theorem dX0_burnt_5 : decode cX0_burnt 5 = .ok (.bipush 49, 2) := by decide +kernel
theorem dX0_burnt_7 : decode cX0_burnt 7 = .ok (.if_icmp .ge 21, 3) := by decide +kernel
theorem dX0_burnt_10 : decode cX0_burnt 10 = .ok (.iload_n 1, 1) := by decide +kernel
theorem dX0_burnt_11 : decode cX0_burnt 11 = .ok (.aload_n 0, 1) := by decide +kernel
theorem dX0_burnt_12 : decode cX0_burnt 12 = .ok (.getfield 21, 3) := by decide +kernel
theorem dX0_burnt_15 : decode cX0_burnt 15 = .ok (.iload_n 2, 1) := by decide +kernel
theorem dX0_burnt_16 : decode cX0_burnt 16 = .ok (.laload, 1) := by decide +kernel
theorem dX0_burnt_17 : decode cX0_burnt 17 = .ok (.invokestatic 87, 3) := by decide +kernel
theorem dX0_burnt_20 : decode cX0_burnt 20 = .ok (.iadd, 1) := by decide +kernel
theorem dX0_burnt_21 : decode cX0_burnt 21 = .ok (.istore_n 1, 1) := by decide +kernel
theorem dX0_burnt_22 : decode cX0_burnt 22 = .ok (.iinc 2 1, 3) := by decide +kernel
theorem dX0_burnt_25 : decode cX0_burnt 25 = .ok (.goto (-21), 3) := by decide +kernel
theorem dX0_burnt_28 : decode cX0_burnt 28 = .ok (.iload_n 1, 1) := by decide +kernel
theorem dX0_burnt_29 : decode cX0_burnt 29 = .ok (.ireturn, 1) := by decide +kernel
theorem dX0_reach_0 : decode cX0_reach 0 = .ok (.iconst 0, 1) := by decide +kernel
theorem dX0_reach_1 : decode cX0_reach 1 = .ok (.istore_n 1, 1) := by decide +kernel
theorem dX0_reach_2 : decode cX0_reach 2 = .ok (.iconst 0, 1) := by decide +kernel
theorem dX0_reach_3 : decode cX0_reach 3 = .ok (.istore_n 2, 1) := by decide +kernel
theorem dX0_reach_4 : decode cX0_reach 4 = .ok (.iload_n 2, 1) := by decide +kernel
theorem dX0_reach_5 : decode cX0_reach 5 = .ok (.bipush 49, 2) := by decide +kernel
theorem dX0_reach_7 : decode cX0_reach 7 = .ok (.if_icmp .ge 61, 3) := by decide +kernel
theorem dX0_reach_10 : decode cX0_reach 10 = .ok (.iconst 0, 1) := by decide +kernel
theorem dX0_reach_11 : decode cX0_reach 11 = .ok (.istore_n 3, 1) := by decide +kernel
theorem dX0_reach_12 : decode cX0_reach 12 = .ok (.iload_n 3, 1) := by decide +kernel
theorem dX0_reach_13 : decode cX0_reach 13 = .ok (.bipush 49, 2) := by decide +kernel
theorem dX0_reach_15 : decode cX0_reach 15 = .ok (.if_icmp .ge 47, 3) := by decide +kernel
theorem dX0_reach_18 : decode cX0_reach 18 = .ok (.aload_n 0, 1) := by decide +kernel
theorem dX0_reach_19 : decode cX0_reach 19 = .ok (.getfield 21, 3) := by decide +kernel
theorem dX0_reach_22 : decode cX0_reach 22 = .ok (.iload_n 2, 1) := by decide +kernel
theorem dX0_reach_23 : decode cX0_reach 23 = .ok (.laload, 1) := by decide +kernel
theorem dX0_reach_24 : decode cX0_reach 24 = .ok (.iload_n 3, 1) := by decide +kernel
theorem dX0_reach_25 : decode cX0_reach 25 = .ok (.lshr, 1) := by decide +kernel
theorem dX0_reach_26 : decode cX0_reach 26 = .ok (.lconst 1, 1) := by decide +kernel
theorem dX0_reach_27 : decode cX0_reach 27 = .ok (.land, 1) := by decide +kernel
theorem dX0_reach_28 : decode cX0_reach 28 = .ok (.lconst 0, 1) := by decide +kernel
theorem dX0_reach_29 : decode cX0_reach 29 = .ok (.lcmp, 1) := by decide +kernel
theorem dX0_reach_30 : decode cX0_reach 30 = .ok (.ifCond .ne 6, 3) := by decide +kernel
theorem dX0_reach_33 : decode cX0_reach 33 = .ok (.goto 23, 3) := by decide +kernel
theorem dX0_reach_36 : decode cX0_reach 36 = .ok (.iload_n 1, 1) := by decide +kernel
theorem dX0_reach_37 : decode cX0_reach 37 = .ok (.iload_n 2, 1) := by decide +kernel
theorem dX0_reach_38 : decode cX0_reach 38 = .ok (.bipush 24, 2) := by decide +kernel
theorem dX0_reach_40 : decode cX0_reach 40 = .ok (.isub, 1) := by decide +kernel
theorem dX0_reach_41 : decode cX0_reach 41 = .ok (.invokestatic 93, 3) := by decide +kernel
theorem dX0_reach_44 : decode cX0_reach 44 = .ok (.iload_n 3, 1) := by decide +kernel
theorem dX0_reach_45 : decode cX0_reach 45 = .ok (.bipush 24, 2) := by decide +kernel
theorem dX0_reach_47 : decode cX0_reach 47 = .ok (.isub, 1) := by decide +kernel
theorem dX0_reach_48 : decode cX0_reach 48 = .ok (.invokestatic 93, 3) := by decide +kernel
theorem dX0_reach_51 : decode cX0_reach 51 = .ok (.iadd, 1) := by decide +kernel
theorem dX0_reach_52 : decode cX0_reach 52 = .ok (.invokestatic 35, 3) := by decide +kernel
theorem dX0_reach_55 : decode cX0_reach 55 = .ok (.istore_n 1, 1) := by decide +kernel
theorem dX0_reach_56 : decode cX0_reach 56 = .ok (.iinc 3 1, 3) := by decide +kernel
theorem dX0_reach_59 : decode cX0_reach 59 = .ok (.goto (-47), 3) := by decide +kernel
theorem dX0_reach_62 : decode cX0_reach 62 = .ok (.iinc 2 1, 3) := by decide +kernel
theorem dX0_reach_65 : decode cX0_reach 65 = .ok (.goto (-61), 3) := by decide +kernel
theorem dX0_reach_68 : decode cX0_reach 68 = .ok (.iload_n 1, 1) := by decide +kernel
theorem dX0_reach_69 : decode cX0_reach 69 = .ok (.ireturn, 1) := by decide +kernel
theorem dX1_init_0 : decode cX1_init 0 = .ok (.aload_n 0, 1) := by decide +kernel
theorem dX1_init_1 : decode cX1_init 1 = .ok (.invokespecial 3, 3) := by decide +kernel
theorem dX1_init_4 : decode cX1_init 4 = .ok (.aload_n 0, 1) := by decide +kernel
theorem dX1_init_5 : decode cX1_init 5 = .ok (.bipush 12, 2) := by decide +kernel
theorem dX1_init_7 : decode cX1_init 7 = .ok (.newarray .int, 2) := by decide +kernel
theorem dX1_init_9 : decode cX1_init 9 = .ok (.putfield 9, 3) := by decide +kernel
theorem dX1_init_12 : decode cX1_init 12 = .ok (.return_, 1) := by decide +kernel
set_option maxRecDepth 20000 in
theorem ggX1_lay_X3_endsOf : GoodIn wsX1_lay wsX3_endsOf := goodIn_r _ [15, 16, 17, 18, 19, 20, 21, 22] (by decide +kernel) (by decide +kernel)
set_option maxRecDepth 20000 in
theorem gX1_lay_X3_endsOf : GoodIn wsX1_lay (wsV RX1 28 RX3 yX3_endsOf wsX3_endsOf) := goodIn_app (goodIn_of _ (by decide +kernel)) ggX1_lay_X3_endsOf
theorem dX1_lay_0 : decode cX1_lay 0 = .ok (.aload_n 0, 1) := by decide +kernel
theorem dX1_lay_1 : decode cX1_lay 1 = .ok (.aload_n 1, 1) := by decide +kernel
theorem dX1_lay_2 : decode cX1_lay 2 = .ok (.getfield 15, 3) := by decide +kernel
theorem dX1_lay_5 : decode cX1_lay 5 = .ok (.bipush 12, 2) := by decide +kernel
theorem dX1_lay_7 : decode cX1_lay 7 = .ok (.invokestatic 21, 3) := by decide +kernel
theorem dX1_lay_10 : decode cX1_lay 10 = .ok (.putfield 27, 3) := by decide +kernel
theorem dX1_lay_13 : decode cX1_lay 13 = .ok (.iconst 0, 1) := by decide +kernel
theorem dX1_lay_14 : decode cX1_lay 14 = .ok (.istore 5, 2) := by decide +kernel
theorem dX1_lay_16 : decode cX1_lay 16 = .ok (.iload 5, 2) := by decide +kernel
theorem dX1_lay_18 : decode cX1_lay 18 = .ok (.bipush 12, 2) := by decide +kernel
theorem dX1_lay_20 : decode cX1_lay 20 = .ok (.if_icmp .ge 22, 3) := by decide +kernel
theorem dX1_lay_23 : decode cX1_lay 23 = .ok (.aload_n 0, 1) := by decide +kernel
theorem dX1_lay_24 : decode cX1_lay 24 = .ok (.getfield 9, 3) := by decide +kernel
theorem dX1_lay_27 : decode cX1_lay 27 = .ok (.iload 5, 2) := by decide +kernel
theorem dX1_lay_29 : decode cX1_lay 29 = .ok (.aload_n 1, 1) := by decide +kernel
theorem dX1_lay_30 : decode cX1_lay 30 = .ok (.iload 5, 2) := by decide +kernel
theorem dX1_lay_32 : decode cX1_lay 32 = .ok (.invokevirtual 28, 3) := by decide +kernel
theorem dX1_lay_35 : decode cX1_lay 35 = .ok (.iastore, 1) := by decide +kernel
theorem dX1_lay_36 : decode cX1_lay 36 = .ok (.iinc 5 1, 3) := by decide +kernel
theorem dX1_lay_39 : decode cX1_lay 39 = .ok (.goto (-23), 3) := by decide +kernel
theorem dX1_lay_42 : decode cX1_lay 42 = .ok (.aload_n 0, 1) := by decide +kernel
theorem dX1_lay_43 : decode cX1_lay 43 = .ok (.iload_n 2, 1) := by decide +kernel
theorem dX1_lay_44 : decode cX1_lay 44 = .ok (.putfield 32, 3) := by decide +kernel
theorem dX1_lay_47 : decode cX1_lay 47 = .ok (.aload_n 0, 1) := by decide +kernel
theorem dX1_lay_48 : decode cX1_lay 48 = .ok (.iload_n 3, 1) := by decide +kernel
theorem dX1_lay_49 : decode cX1_lay 49 = .ok (.putfield 35, 3) := by decide +kernel
theorem dX1_lay_52 : decode cX1_lay 52 = .ok (.aload_n 0, 1) := by decide +kernel
theorem dX1_lay_53 : decode cX1_lay 53 = .ok (.iload 4, 2) := by decide +kernel
theorem dX1_lay_55 : decode cX1_lay 55 = .ok (.iload_n 3, 1) := by decide +kernel
theorem dX1_lay_56 : decode cX1_lay 56 = .ok (.isub, 1) := by decide +kernel
theorem dX1_lay_57 : decode cX1_lay 57 = .ok (.putfield 38, 3) := by decide +kernel
theorem dX1_lay_60 : decode cX1_lay 60 = .ok (.return_, 1) := by decide +kernel
set_option maxRecDepth 20000 in
theorem ggX1_allWays_X1_power : GoodIn wsX1_allWays wsX1_power := goodIn_r _ [7] (by decide +kernel) (by decide +kernel)
set_option maxRecDepth 20000 in
theorem gX1_allWays_X1_power : GoodIn wsX1_allWays (va_wsS RX1 41 yX1_power wsX1_power) := goodIn_app (goodIn_of _ (by decide +kernel)) ggX1_allWays_X1_power
theorem dX1_allWays_0 : decode cX1_allWays 0 = .ok (.aload_n 0, 1) := by decide +kernel
theorem dX1_allWays_1 : decode cX1_allWays 1 = .ok (.getfield 35, 3) := by decide +kernel
theorem dX1_allWays_4 : decode cX1_allWays 4 = .ok (.aload_n 0, 1) := by decide +kernel
theorem dX1_allWays_5 : decode cX1_allWays 5 = .ok (.getfield 38, 3) := by decide +kernel
theorem dX1_allWays_8 : decode cX1_allWays 8 = .ok (.iadd, 1) := by decide +kernel
theorem dX1_allWays_9 : decode cX1_allWays 9 = .ok (.i2l, 1) := by decide +kernel
theorem dX1_allWays_10 : decode cX1_allWays 10 = .ok (.aload_n 0, 1) := by decide +kernel
theorem dX1_allWays_11 : decode cX1_allWays 11 = .ok (.getfield 27, 3) := by decide +kernel
theorem dX1_allWays_14 : decode cX1_allWays 14 = .ok (.invokestatic 41, 3) := by decide +kernel
theorem dX1_allWays_17 : decode cX1_allWays 17 = .ok (.lreturn, 1) := by decide +kernel
set_option maxRecDepth 20000 in
theorem ggX1_waysTo_X1_waysFrom : GoodIn wsX1_waysTo wsX1_waysFrom := goodIn_r _ [6, 7, 8, 9, 10, 5, 11, 12, 13, 14, 15, 1, 16, 17, 18, 19, 20, 21, 22, 23, 24, 2, 3, 4, 25, 26, 27, 28, 29] (by decide +kernel) (by decide +kernel)
set_option maxRecDepth 20000 in
theorem gX1_waysTo_X1_waysFrom : GoodIn wsX1_waysTo (wsV RX1 45 RX1 yX1_waysFrom wsX1_waysFrom) := goodIn_app (goodIn_of _ (by decide +kernel)) ggX1_waysTo_X1_waysFrom
theorem dX1_waysTo_0 : decode cX1_waysTo 0 = .ok (.aload_n 0, 1) := by decide +kernel
theorem dX1_waysTo_1 : decode cX1_waysTo 1 = .ok (.iconst 1, 1) := by decide +kernel
theorem dX1_waysTo_2 : decode cX1_waysTo 2 = .ok (.iload_n 1, 1) := by decide +kernel
theorem dX1_waysTo_3 : decode cX1_waysTo 3 = .ok (.ishl, 1) := by decide +kernel
theorem dX1_waysTo_4 : decode cX1_waysTo 4 = .ok (.iload_n 2, 1) := by decide +kernel
theorem dX1_waysTo_5 : decode cX1_waysTo 5 = .ok (.iconst 0, 1) := by decide +kernel
theorem dX1_waysTo_6 : decode cX1_waysTo 6 = .ok (.aload_n 0, 1) := by decide +kernel
theorem dX1_waysTo_7 : decode cX1_waysTo 7 = .ok (.getfield 27, 3) := by decide +kernel
theorem dX1_waysTo_10 : decode cX1_waysTo 10 = .ok (.invokevirtual 45, 3) := by decide +kernel
theorem dX1_waysTo_13 : decode cX1_waysTo 13 = .ok (.lreturn, 1) := by decide +kernel
set_option maxRecDepth 20000 in
theorem ggX1_waysFrom_X1_power : GoodIn wsX1_waysFrom wsX1_power := goodIn_r _ [6] (by decide +kernel) (by decide +kernel)
set_option maxRecDepth 20000 in
theorem gX1_waysFrom_X1_power : GoodIn wsX1_waysFrom (va_wsS RX1 41 yX1_power wsX1_power) := goodIn_app (goodIn_of _ (by decide +kernel)) ggX1_waysFrom_X1_power
set_option maxRecDepth 20000 in
theorem ggX1_waysFrom_X1_lineOnward : GoodIn wsX1_waysFrom wsX1_lineOnward := goodIn_r _ [10, 11, 12, 13, 14, 15, 16, 24, 25, 26, 27, 28] (by decide +kernel) (by decide +kernel)
set_option maxRecDepth 20000 in
theorem gX1_waysFrom_X1_lineOnward : GoodIn wsX1_waysFrom (wsV RX1 49 RX1 yX1_lineOnward wsX1_lineOnward) := goodIn_app (goodIn_of _ (by decide +kernel)) ggX1_waysFrom_X1_lineOnward
set_option maxRecDepth 20000 in
theorem ggX1_waysFrom_X1_waysOver : GoodIn wsX1_waysFrom wsX1_waysOver := goodIn_r _ [20, 12, 1, 2, 21, 22, 23, 5, 0, 3, 4, 6, 7, 8, 9, 10, 11, 13, 14, 15, 16, 17, 18, 19, 24, 25, 26, 27, 28] (by decide +kernel) (by decide +kernel)
set_option maxRecDepth 20000 in
theorem gX1_waysFrom_X1_waysOver : GoodIn wsX1_waysFrom (wsV RX1 52 RX1 yX1_waysOver wsX1_waysOver) := goodIn_app (goodIn_of _ (by decide +kernel)) ggX1_waysFrom_X1_waysOver
theorem dX1_waysFrom_0 : decode cX1_waysFrom 0 = .ok (.iload_n 2, 1) := by decide +kernel
theorem dX1_waysFrom_1 : decode cX1_waysFrom 1 = .ok (.iload_n 1, 1) := by decide +kernel
theorem dX1_waysFrom_2 : decode cX1_waysFrom 2 = .ok (.iand, 1) := by decide +kernel
theorem dX1_waysFrom_3 : decode cX1_waysFrom 3 = .ok (.ifCond .eq 19, 3) := by decide +kernel
theorem dX1_waysFrom_6 : decode cX1_waysFrom 6 = .ok (.aload_n 0, 1) := by decide +kernel
theorem dX1_waysFrom_7 : decode cX1_waysFrom 7 = .ok (.getfield 35, 3) := by decide +kernel
theorem dX1_waysFrom_10 : decode cX1_waysFrom 10 = .ok (.aload_n 0, 1) := by decide +kernel
theorem dX1_waysFrom_11 : decode cX1_waysFrom 11 = .ok (.getfield 38, 3) := by decide +kernel
theorem dX1_waysFrom_14 : decode cX1_waysFrom 14 = .ok (.iadd, 1) := by decide +kernel
theorem dX1_waysFrom_15 : decode cX1_waysFrom 15 = .ok (.i2l, 1) := by decide +kernel
theorem dX1_waysFrom_16 : decode cX1_waysFrom 16 = .ok (.iload 4, 2) := by decide +kernel
theorem dX1_waysFrom_18 : decode cX1_waysFrom 18 = .ok (.invokestatic 41, 3) := by decide +kernel
theorem dX1_waysFrom_21 : decode cX1_waysFrom 21 = .ok (.lreturn, 1) := by decide +kernel
theorem dX1_waysFrom_22 : decode cX1_waysFrom 22 = .ok (.iload 4, 2) := by decide +kernel
theorem dX1_waysFrom_24 : decode cX1_waysFrom 24 = .ok (.ifCond .gt 7, 3) := by decide +kernel
theorem dX1_waysFrom_27 : decode cX1_waysFrom 27 = .ok (.iconst (-1), 1) := by decide +kernel
theorem dX1_waysFrom_28 : decode cX1_waysFrom 28 = .ok (.goto 9, 3) := by decide +kernel
theorem dX1_waysFrom_31 : decode cX1_waysFrom 31 = .ok (.aload_n 0, 1) := by decide +kernel
theorem dX1_waysFrom_32 : decode cX1_waysFrom 32 = .ok (.iload_n 2, 1) := by decide +kernel
theorem dX1_waysFrom_33 : decode cX1_waysFrom 33 = .ok (.iload_n 3, 1) := by decide +kernel
theorem dX1_waysFrom_34 : decode cX1_waysFrom 34 = .ok (.invokevirtual 49, 3) := by decide +kernel
theorem dX1_waysFrom_37 : decode cX1_waysFrom 37 = .ok (.istore 5, 2) := by decide +kernel
theorem dX1_waysFrom_39 : decode cX1_waysFrom 39 = .ok (.iload 5, 2) := by decide +kernel
theorem dX1_waysFrom_41 : decode cX1_waysFrom 41 = .ok (.iconst (-1), 1) := by decide +kernel
theorem dX1_waysFrom_42 : decode cX1_waysFrom 42 = .ok (.if_icmp .ne 7, 3) := by decide +kernel
theorem dX1_waysFrom_45 : decode cX1_waysFrom 45 = .ok (.lconst 0, 1) := by decide +kernel
theorem dX1_waysFrom_46 : decode cX1_waysFrom 46 = .ok (.goto 14, 3) := by decide +kernel
theorem dX1_waysFrom_49 : decode cX1_waysFrom 49 = .ok (.aload_n 0, 1) := by decide +kernel
theorem dX1_waysFrom_50 : decode cX1_waysFrom 50 = .ok (.iload 5, 2) := by decide +kernel
theorem dX1_waysFrom_52 : decode cX1_waysFrom 52 = .ok (.iload_n 1, 1) := by decide +kernel
theorem dX1_waysFrom_53 : decode cX1_waysFrom 53 = .ok (.iload_n 2, 1) := by decide +kernel
theorem dX1_waysFrom_54 : decode cX1_waysFrom 54 = .ok (.iload_n 3, 1) := by decide +kernel
theorem dX1_waysFrom_55 : decode cX1_waysFrom 55 = .ok (.iload 4, 2) := by decide +kernel
theorem dX1_waysFrom_57 : decode cX1_waysFrom 57 = .ok (.invokevirtual 52, 3) := by decide +kernel
theorem dX1_waysFrom_60 : decode cX1_waysFrom 60 = .ok (.lreturn, 1) := by decide +kernel
set_option maxRecDepth 20000 in
theorem ggX1_waysOver_X1_waysFrom : GoodIn wsX1_waysOver wsX1_waysFrom := goodIn_r _ [8, 2, 3, 9, 10, 7, 11, 12, 13, 14, 15, 16, 1, 17, 18, 19, 20, 21, 22, 23, 0, 4, 5, 6, 24, 25, 26, 27, 28] (by decide +kernel) (by decide +kernel)
set_option maxRecDepth 20000 in
theorem gX1_waysOver_X1_waysFrom : GoodIn wsX1_waysOver (wsV RX1 45 RX1 yX1_waysFrom wsX1_waysFrom) := goodIn_app (goodIn_of _ (by decide +kernel)) ggX1_waysOver_X1_waysFrom
theorem dX1_waysOver_0 : decode cX1_waysOver 0 = .ok (.iload_n 1, 1) := by decide +kernel
theorem dX1_waysOver_1 : decode cX1_waysOver 1 = .ok (.ifCond .lt 9, 3) := by decide +kernel
theorem dX1_waysOver_4 : decode cX1_waysOver 4 = .ok (.iload_n 1, 1) := by decide +kernel
theorem dX1_waysOver_5 : decode cX1_waysOver 5 = .ok (.bipush 12, 2) := by decide +kernel
theorem dX1_waysOver_7 : decode cX1_waysOver 7 = .ok (.if_icmp .lt 5, 3) := by decide +kernel
theorem dX1_waysOver_10 : decode cX1_waysOver 10 = .ok (.lconst 0, 1) := by decide +kernel
theorem dX1_waysOver_11 : decode cX1_waysOver 11 = .ok (.lreturn, 1) := by decide +kernel
theorem dX1_waysOver_12 : decode cX1_waysOver 12 = .ok (.iload 4, 2) := by decide +kernel
theorem dX1_waysOver_14 : decode cX1_waysOver 14 = .ok (.iconst 1, 1) := by decide +kernel
theorem dX1_waysOver_15 : decode cX1_waysOver 15 = .ok (.iload_n 1, 1) := by decide +kernel
theorem dX1_waysOver_16 : decode cX1_waysOver 16 = .ok (.ishl, 1) := by decide +kernel
theorem dX1_waysOver_17 : decode cX1_waysOver 17 = .ok (.ior, 1) := by decide +kernel
theorem dX1_waysOver_18 : decode cX1_waysOver 18 = .ok (.istore 6, 2) := by decide +kernel
theorem dX1_waysOver_20 : decode cX1_waysOver 20 = .ok (.aload_n 0, 1) := by decide +kernel
theorem dX1_waysOver_21 : decode cX1_waysOver 21 = .ok (.iload_n 2, 1) := by decide +kernel
theorem dX1_waysOver_22 : decode cX1_waysOver 22 = .ok (.iload_n 3, 1) := by decide +kernel
theorem dX1_waysOver_23 : decode cX1_waysOver 23 = .ok (.aload_n 0, 1) := by decide +kernel
theorem dX1_waysOver_24 : decode cX1_waysOver 24 = .ok (.getfield 9, 3) := by decide +kernel
theorem dX1_waysOver_27 : decode cX1_waysOver 27 = .ok (.iload_n 1, 1) := by decide +kernel
theorem dX1_waysOver_28 : decode cX1_waysOver 28 = .ok (.iaload, 1) := by decide +kernel
theorem dX1_waysOver_29 : decode cX1_waysOver 29 = .ok (.ior, 1) := by decide +kernel
theorem dX1_waysOver_30 : decode cX1_waysOver 30 = .ok (.iload 6, 2) := by decide +kernel
theorem dX1_waysOver_32 : decode cX1_waysOver 32 = .ok (.iload 5, 2) := by decide +kernel
theorem dX1_waysOver_34 : decode cX1_waysOver 34 = .ok (.iconst 1, 1) := by decide +kernel
theorem dX1_waysOver_35 : decode cX1_waysOver 35 = .ok (.isub, 1) := by decide +kernel
theorem dX1_waysOver_36 : decode cX1_waysOver 36 = .ok (.invokevirtual 45, 3) := by decide +kernel
theorem dX1_waysOver_39 : decode cX1_waysOver 39 = .ok (.lstore 7, 2) := by decide +kernel
theorem dX1_waysOver_41 : decode cX1_waysOver 41 = .ok (.aload_n 0, 1) := by decide +kernel
theorem dX1_waysOver_42 : decode cX1_waysOver 42 = .ok (.getfield 35, 3) := by decide +kernel
theorem dX1_waysOver_45 : decode cX1_waysOver 45 = .ok (.i2l, 1) := by decide +kernel
theorem dX1_waysOver_46 : decode cX1_waysOver 46 = .ok (.lload 7, 2) := by decide +kernel
theorem dX1_waysOver_48 : decode cX1_waysOver 48 = .ok (.lmul, 1) := by decide +kernel
theorem dX1_waysOver_49 : decode cX1_waysOver 49 = .ok (.aload_n 0, 1) := by decide +kernel
theorem dX1_waysOver_50 : decode cX1_waysOver 50 = .ok (.getfield 38, 3) := by decide +kernel
theorem dX1_waysOver_53 : decode cX1_waysOver 53 = .ok (.i2l, 1) := by decide +kernel
theorem dX1_waysOver_54 : decode cX1_waysOver 54 = .ok (.aload_n 0, 1) := by decide +kernel
theorem dX1_waysOver_55 : decode cX1_waysOver 55 = .ok (.iload_n 2, 1) := by decide +kernel
theorem dX1_waysOver_56 : decode cX1_waysOver 56 = .ok (.iload_n 3, 1) := by decide +kernel
theorem dX1_waysOver_57 : decode cX1_waysOver 57 = .ok (.iload 6, 2) := by decide +kernel
theorem dX1_waysOver_59 : decode cX1_waysOver 59 = .ok (.iload 5, 2) := by decide +kernel
theorem dX1_waysOver_61 : decode cX1_waysOver 61 = .ok (.iconst 1, 1) := by decide +kernel
theorem dX1_waysOver_62 : decode cX1_waysOver 62 = .ok (.isub, 1) := by decide +kernel
theorem dX1_waysOver_63 : decode cX1_waysOver 63 = .ok (.invokevirtual 45, 3) := by decide +kernel
theorem dX1_waysOver_66 : decode cX1_waysOver 66 = .ok (.lmul, 1) := by decide +kernel
theorem dX1_waysOver_67 : decode cX1_waysOver 67 = .ok (.ladd, 1) := by decide +kernel
theorem dX1_waysOver_68 : decode cX1_waysOver 68 = .ok (.lreturn, 1) := by decide +kernel
set_option maxRecDepth 20000 in
theorem ggX1_lineOnward_X6_holds : GoodIn wsX1_lineOnward wsX6_holds := goodIn_r _ [6] (by decide +kernel) (by decide +kernel)
set_option maxRecDepth 20000 in
theorem gX1_lineOnward_X6_holds_n56 : GoodIn wsX1_lineOnward (wsX6_holds) := ggX1_lineOnward_X6_holds
theorem dX1_lineOnward_0 : decode cX1_lineOnward 0 = .ok (.iconst 0, 1) := by decide +kernel
theorem dX1_lineOnward_1 : decode cX1_lineOnward 1 = .ok (.istore_n 3, 1) := by decide +kernel
theorem dX1_lineOnward_2 : decode cX1_lineOnward 2 = .ok (.iload_n 3, 1) := by decide +kernel
theorem dX1_lineOnward_3 : decode cX1_lineOnward 3 = .ok (.aload_n 0, 1) := by decide +kernel
theorem dX1_lineOnward_4 : decode cX1_lineOnward 4 = .ok (.getfield 27, 3) := by decide +kernel
theorem dX1_lineOnward_7 : decode cX1_lineOnward 7 = .ok (.if_icmp .ge 75, 3) := by decide +kernel
theorem dX1_lineOnward_10 : decode cX1_lineOnward 10 = .ok (.iload_n 3, 1) := by decide +kernel
theorem dX1_lineOnward_11 : decode cX1_lineOnward 11 = .ok (.bipush 12, 2) := by decide +kernel
theorem dX1_lineOnward_13 : decode cX1_lineOnward 13 = .ok (.if_icmp .ge 69, 3) := by decide +kernel
theorem dX1_lineOnward_16 : decode cX1_lineOnward 16 = .ok (.aload_n 0, 1) := by decide +kernel
theorem dX1_lineOnward_17 : decode cX1_lineOnward 17 = .ok (.getfield 9, 3) := by decide +kernel
theorem dX1_lineOnward_20 : decode cX1_lineOnward 20 = .ok (.iload_n 3, 1) := by decide +kernel
theorem dX1_lineOnward_21 : decode cX1_lineOnward 21 = .ok (.iaload, 1) := by decide +kernel
theorem dX1_lineOnward_22 : decode cX1_lineOnward 22 = .ok (.iload_n 1, 1) := by decide +kernel
theorem dX1_lineOnward_23 : decode cX1_lineOnward 23 = .ok (.iconst (-1), 1) := by decide +kernel
theorem dX1_lineOnward_24 : decode cX1_lineOnward 24 = .ok (.ixor, 1) := by decide +kernel
theorem dX1_lineOnward_25 : decode cX1_lineOnward 25 = .ok (.iand, 1) := by decide +kernel
theorem dX1_lineOnward_26 : decode cX1_lineOnward 26 = .ok (.istore 4, 2) := by decide +kernel
theorem dX1_lineOnward_28 : decode cX1_lineOnward 28 = .ok (.iload 4, 2) := by decide +kernel
theorem dX1_lineOnward_30 : decode cX1_lineOnward 30 = .ok (.ifCond .eq 18, 3) := by decide +kernel
theorem dX1_lineOnward_33 : decode cX1_lineOnward 33 = .ok (.iload 4, 2) := by decide +kernel
theorem dX1_lineOnward_35 : decode cX1_lineOnward 35 = .ok (.aload_n 0, 1) := by decide +kernel
theorem dX1_lineOnward_36 : decode cX1_lineOnward 36 = .ok (.getfield 9, 3) := by decide +kernel
theorem dX1_lineOnward_39 : decode cX1_lineOnward 39 = .ok (.iload_n 3, 1) := by decide +kernel
theorem dX1_lineOnward_40 : decode cX1_lineOnward 40 = .ok (.iaload, 1) := by decide +kernel
theorem dX1_lineOnward_41 : decode cX1_lineOnward 41 = .ok (.if_icmp .eq 7, 3) := by decide +kernel
theorem dX1_lineOnward_44 : decode cX1_lineOnward 44 = .ok (.iconst 1, 1) := by decide +kernel
theorem dX1_lineOnward_45 : decode cX1_lineOnward 45 = .ok (.goto 4, 3) := by decide +kernel
theorem dX1_lineOnward_48 : decode cX1_lineOnward 48 = .ok (.iconst 0, 1) := by decide +kernel
theorem dX1_lineOnward_49 : decode cX1_lineOnward 49 = .ok (.istore 5, 2) := by decide +kernel
theorem dX1_lineOnward_51 : decode cX1_lineOnward 51 = .ok (.iload 5, 2) := by decide +kernel
theorem dX1_lineOnward_53 : decode cX1_lineOnward 53 = .ok (.ifCond .eq 23, 3) := by decide +kernel
theorem dX1_lineOnward_56 : decode cX1_lineOnward 56 = .ok (.iload 4, 2) := by decide +kernel
theorem dX1_lineOnward_58 : decode cX1_lineOnward 58 = .ok (.aload_n 0, 1) := by decide +kernel
theorem dX1_lineOnward_59 : decode cX1_lineOnward 59 = .ok (.getfield 32, 3) := by decide +kernel
theorem dX1_lineOnward_62 : decode cX1_lineOnward 62 = .ok (.iand, 1) := by decide +kernel
theorem dX1_lineOnward_63 : decode cX1_lineOnward 63 = .ok (.ifCond .ne 13, 3) := by decide +kernel
theorem dX1_lineOnward_66 : decode cX1_lineOnward 66 = .ok (.iload_n 2, 1) := by decide +kernel
theorem dX1_lineOnward_67 : decode cX1_lineOnward 67 = .ok (.iload_n 3, 1) := by decide +kernel
theorem dX1_lineOnward_68 : decode cX1_lineOnward 68 = .ok (.invokestatic 56, 3) := by decide +kernel
theorem dX1_lineOnward_71 : decode cX1_lineOnward 71 = .ok (.ifCond .ne 5, 3) := by decide +kernel
theorem dX1_lineOnward_74 : decode cX1_lineOnward 74 = .ok (.iload_n 3, 1) := by decide +kernel
theorem dX1_lineOnward_75 : decode cX1_lineOnward 75 = .ok (.ireturn, 1) := by decide +kernel
theorem dX1_lineOnward_76 : decode cX1_lineOnward 76 = .ok (.iinc 3 1, 3) := by decide +kernel
theorem dX1_lineOnward_79 : decode cX1_lineOnward 79 = .ok (.goto (-77), 3) := by decide +kernel
theorem dX1_lineOnward_82 : decode cX1_lineOnward 82 = .ok (.iconst (-1), 1) := by decide +kernel
theorem dX1_lineOnward_83 : decode cX1_lineOnward 83 = .ok (.ireturn, 1) := by decide +kernel
theorem dX1_power_0 : decode cX1_power 0 = .ok (.lconst 1, 1) := by decide +kernel
theorem dX1_power_1 : decode cX1_power 1 = .ok (.lstore_n 3, 1) := by decide +kernel
theorem dX1_power_2 : decode cX1_power 2 = .ok (.iconst 0, 1) := by decide +kernel
theorem dX1_power_3 : decode cX1_power 3 = .ok (.istore 5, 2) := by decide +kernel
theorem dX1_power_5 : decode cX1_power 5 = .ok (.iload 5, 2) := by decide +kernel
theorem dX1_power_7 : decode cX1_power 7 = .ok (.iload_n 2, 1) := by decide +kernel
theorem dX1_power_8 : decode cX1_power 8 = .ok (.if_icmp .ge 13, 3) := by decide +kernel
theorem dX1_power_11 : decode cX1_power 11 = .ok (.lload_n 3, 1) := by decide +kernel
theorem dX1_power_12 : decode cX1_power 12 = .ok (.lload_n 0, 1) := by decide +kernel
theorem dX1_power_13 : decode cX1_power 13 = .ok (.lmul, 1) := by decide +kernel
theorem dX1_power_14 : decode cX1_power 14 = .ok (.lstore_n 3, 1) := by decide +kernel
theorem dX1_power_15 : decode cX1_power 15 = .ok (.iinc 5 1, 3) := by decide +kernel
theorem dX1_power_18 : decode cX1_power 18 = .ok (.goto (-13), 3) := by decide +kernel
theorem dX1_power_21 : decode cX1_power 21 = .ok (.lload_n 3, 1) := by decide +kernel
theorem dX1_power_22 : decode cX1_power 22 = .ok (.lreturn, 1) := by decide +kernel
theorem dX2_init_0 : decode cX2_init 0 = .ok (.aload_n 0, 1) := by decide +kernel
theorem dX2_init_1 : decode cX2_init 1 = .ok (.invokespecial 3, 3) := by decide +kernel
theorem dX2_init_4 : decode cX2_init 4 = .ok (.return_, 1) := by decide +kernel
theorem dX2_begin_0 : decode cX2_begin 0 = .ok (.aload_n 0, 1) := by decide +kernel
theorem dX2_begin_1 : decode cX2_begin 1 = .ok (.iload_n 1, 1) := by decide +kernel
theorem dX2_begin_2 : decode cX2_begin 2 = .ok (.putfield 9, 3) := by decide +kernel
theorem dX2_begin_5 : decode cX2_begin 5 = .ok (.aload_n 0, 1) := by decide +kernel
theorem dX2_begin_6 : decode cX2_begin 6 = .ok (.iconst 0, 1) := by decide +kernel
theorem dX2_begin_7 : decode cX2_begin 7 = .ok (.putfield 15, 3) := by decide +kernel
theorem dX2_begin_10 : decode cX2_begin 10 = .ok (.aload_n 0, 1) := by decide +kernel
theorem dX2_begin_11 : decode cX2_begin 11 = .ok (.iconst 0, 1) := by decide +kernel
theorem dX2_begin_12 : decode cX2_begin 12 = .ok (.putfield 18, 3) := by decide +kernel
theorem dX2_begin_15 : decode cX2_begin 15 = .ok (.aload_n 0, 1) := by decide +kernel
theorem dX2_begin_16 : decode cX2_begin 16 = .ok (.iconst 0, 1) := by decide +kernel
theorem dX2_begin_17 : decode cX2_begin 17 = .ok (.putfield 21, 3) := by decide +kernel
theorem dX2_begin_20 : decode cX2_begin 20 = .ok (.aload_n 0, 1) := by decide +kernel
theorem dX2_begin_21 : decode cX2_begin 21 = .ok (.iconst 0, 1) := by decide +kernel
theorem dX2_begin_22 : decode cX2_begin 22 = .ok (.putfield 24, 3) := by decide +kernel
theorem dX2_begin_25 : decode cX2_begin 25 = .ok (.aload_n 0, 1) := by decide +kernel
theorem dX2_begin_26 : decode cX2_begin 26 = .ok (.iconst 0, 1) := by decide +kernel
theorem dX2_begin_27 : decode cX2_begin 27 = .ok (.putfield 28, 3) := by decide +kernel
theorem dX2_begin_30 : decode cX2_begin 30 = .ok (.aload_n 0, 1) := by decide +kernel
theorem dX2_begin_31 : decode cX2_begin 31 = .ok (.iconst 0, 1) := by decide +kernel
theorem dX2_begin_32 : decode cX2_begin 32 = .ok (.putfield 31, 3) := by decide +kernel
theorem dX2_begin_35 : decode cX2_begin 35 = .ok (.return_, 1) := by decide +kernel
theorem dX2_ended_0 : decode cX2_ended 0 = .ok (.aload_n 0, 1) := by decide +kernel
theorem dX2_ended_1 : decode cX2_ended 1 = .ok (.getfield 28, 3) := by decide +kernel
theorem dX2_ended_4 : decode cX2_ended 4 = .ok (.ifCond .ne 10, 3) := by decide +kernel
theorem dX2_ended_7 : decode cX2_ended 7 = .ok (.aload_n 0, 1) := by decide +kernel
theorem dX2_ended_8 : decode cX2_ended 8 = .ok (.getfield 24, 3) := by decide +kernel
theorem dX2_ended_11 : decode cX2_ended 11 = .ok (.ifCond .eq 7, 3) := by decide +kernel
theorem dX2_ended_14 : decode cX2_ended 14 = .ok (.iconst 1, 1) := by decide +kernel
theorem dX2_ended_15 : decode cX2_ended 15 = .ok (.goto 4, 3) := by decide +kernel
theorem dX2_ended_18 : decode cX2_ended 18 = .ok (.iconst 0, 1) := by decide +kernel
theorem dX2_ended_19 : decode cX2_ended 19 = .ok (.ireturn, 1) := by decide +kernel
set_option maxRecDepth 20000 in
theorem ggX2_openTick_X4_money : GoodIn wsX2_openTick wsX4_money := goodIn_r _ [7, 8, 9, 10, 11, 12, 13, 14, 15, 16, 24, 25] (by decide +kernel) (by decide +kernel)
set_option maxRecDepth 20000 in
theorem gX2_openTick_X4_money : GoodIn wsX2_openTick (wsV RX2 34 RX4 yX4_money wsX4_money) := goodIn_app (goodIn_of _ (by decide +kernel)) ggX2_openTick_X4_money
theorem dX2_openTick_0 : decode cX2_openTick 0 = .ok (.aload_n 0, 1) := by decide +kernel
theorem dX2_openTick_1 : decode cX2_openTick 1 = .ok (.dup, 1) := by decide +kernel
theorem dX2_openTick_2 : decode cX2_openTick 2 = .ok (.getfield 18, 3) := by decide +kernel
theorem dX2_openTick_5 : decode cX2_openTick 5 = .ok (.iconst 1, 1) := by decide +kernel
theorem dX2_openTick_6 : decode cX2_openTick 6 = .ok (.iadd, 1) := by decide +kernel
theorem dX2_openTick_7 : decode cX2_openTick 7 = .ok (.putfield 18, 3) := by decide +kernel
theorem dX2_openTick_10 : decode cX2_openTick 10 = .ok (.aload_n 0, 1) := by decide +kernel
theorem dX2_openTick_11 : decode cX2_openTick 11 = .ok (.aload_n 1, 1) := by decide +kernel
theorem dX2_openTick_12 : decode cX2_openTick 12 = .ok (.aload_n 0, 1) := by decide +kernel
theorem dX2_openTick_13 : decode cX2_openTick 13 = .ok (.getfield 18, 3) := by decide +kernel
theorem dX2_openTick_16 : decode cX2_openTick 16 = .ok (.aload_n 0, 1) := by decide +kernel
theorem dX2_openTick_17 : decode cX2_openTick 17 = .ok (.getfield 31, 3) := by decide +kernel
theorem dX2_openTick_20 : decode cX2_openTick 20 = .ok (.invokevirtual 34, 3) := by decide +kernel
theorem dX2_openTick_23 : decode cX2_openTick 23 = .ok (.putfield 31, 3) := by decide +kernel
theorem dX2_openTick_26 : decode cX2_openTick 26 = .ok (.return_, 1) := by decide +kernel
set_option maxRecDepth 20000 in
theorem ggX2_putSet_X3_isLawful : GoodIn wsX2_putSet wsX3_isLawful := goodIn_r _ [9, 10, 11, 12, 8, 13, 14, 15, 16, 17, 18, 19, 20, 21, 22, 37, 38, 39, 40, 41, 42] (by decide +kernel) (by decide +kernel)
set_option maxRecDepth 20000 in
theorem gX2_putSet_X3_isLawful : GoodIn wsX2_putSet (wsV RX2 39 RX3 yX3_isLawful wsX3_isLawful) := goodIn_app (goodIn_of _ (by decide +kernel)) ggX2_putSet_X3_isLawful
set_option maxRecDepth 20000 in
theorem ggX2_putSet_X3_priceOf : GoodIn wsX2_putSet wsX3_priceOf := goodIn_r _ [18, 19, 20, 21, 8, 22, 37, 38, 39, 40, 41, 42] (by decide +kernel) (by decide +kernel)
set_option maxRecDepth 20000 in
theorem gX2_putSet_X3_priceOf : GoodIn wsX2_putSet (wsV RX2 45 RX3 yX3_priceOf wsX3_priceOf) := goodIn_app (goodIn_of _ (by decide +kernel)) ggX2_putSet_X3_priceOf
set_option maxRecDepth 20000 in
theorem ggX2_putSet_X2_pay : GoodIn wsX2_putSet wsX2_pay := goodIn_r _ [28, 2, 3, 29, 30, 31, 32, 33, 34, 35, 36] (by decide +kernel) (by decide +kernel)
set_option maxRecDepth 20000 in
theorem gX2_putSet_X2_pay : GoodIn wsX2_putSet (wsV RX2 49 RX2 yX2_pay wsX2_pay) := goodIn_app (goodIn_of _ (by decide +kernel)) ggX2_putSet_X2_pay
theorem dX2_putSet_0 : decode cX2_putSet 0 = .ok (.aload_n 1, 1) := by decide +kernel
theorem dX2_putSet_1 : decode cX2_putSet 1 = .ok (.iload_n 2, 1) := by decide +kernel
theorem dX2_putSet_2 : decode cX2_putSet 2 = .ok (.aload_n 0, 1) := by decide +kernel
theorem dX2_putSet_3 : decode cX2_putSet 3 = .ok (.getfield 9, 3) := by decide +kernel
theorem dX2_putSet_6 : decode cX2_putSet 6 = .ok (.aload_n 0, 1) := by decide +kernel
theorem dX2_putSet_7 : decode cX2_putSet 7 = .ok (.getfield 15, 3) := by decide +kernel
theorem dX2_putSet_10 : decode cX2_putSet 10 = .ok (.aload_n 0, 1) := by decide +kernel
theorem dX2_putSet_11 : decode cX2_putSet 11 = .ok (.getfield 31, 3) := by decide +kernel
theorem dX2_putSet_14 : decode cX2_putSet 14 = .ok (.invokevirtual 39, 3) := by decide +kernel
theorem dX2_putSet_17 : decode cX2_putSet 17 = .ok (.ifCond .ne 9, 3) := by decide +kernel
theorem dX2_putSet_20 : decode cX2_putSet 20 = .ok (.aload_n 0, 1) := by decide +kernel
theorem dX2_putSet_21 : decode cX2_putSet 21 = .ok (.iconst 1, 1) := by decide +kernel
theorem dX2_putSet_22 : decode cX2_putSet 22 = .ok (.putfield 24, 3) := by decide +kernel
theorem dX2_putSet_25 : decode cX2_putSet 25 = .ok (.return_, 1) := by decide +kernel
theorem dX2_putSet_26 : decode cX2_putSet 26 = .ok (.aload_n 0, 1) := by decide +kernel
theorem dX2_putSet_27 : decode cX2_putSet 27 = .ok (.iload_n 2, 1) := by decide +kernel
theorem dX2_putSet_28 : decode cX2_putSet 28 = .ok (.aload_n 1, 1) := by decide +kernel
theorem dX2_putSet_29 : decode cX2_putSet 29 = .ok (.iload_n 2, 1) := by decide +kernel
theorem dX2_putSet_30 : decode cX2_putSet 30 = .ok (.invokevirtual 45, 3) := by decide +kernel
theorem dX2_putSet_33 : decode cX2_putSet 33 = .ok (.invokevirtual 49, 3) := by decide +kernel
theorem dX2_putSet_36 : decode cX2_putSet 36 = .ok (.return_, 1) := by decide +kernel
theorem dX2_pay_0 : decode cX2_pay 0 = .ok (.aload_n 0, 1) := by decide +kernel
theorem dX2_pay_1 : decode cX2_pay 1 = .ok (.dup, 1) := by decide +kernel
theorem dX2_pay_2 : decode cX2_pay 2 = .ok (.getfield 15, 3) := by decide +kernel
theorem dX2_pay_5 : decode cX2_pay 5 = .ok (.iload_n 1, 1) := by decide +kernel
theorem dX2_pay_6 : decode cX2_pay 6 = .ok (.ior, 1) := by decide +kernel
theorem dX2_pay_7 : decode cX2_pay 7 = .ok (.putfield 15, 3) := by decide +kernel
theorem dX2_pay_10 : decode cX2_pay 10 = .ok (.aload_n 0, 1) := by decide +kernel
theorem dX2_pay_11 : decode cX2_pay 11 = .ok (.dup, 1) := by decide +kernel
theorem dX2_pay_12 : decode cX2_pay 12 = .ok (.getfield 31, 3) := by decide +kernel
theorem dX2_pay_15 : decode cX2_pay 15 = .ok (.iload_n 2, 1) := by decide +kernel
theorem dX2_pay_16 : decode cX2_pay 16 = .ok (.isub, 1) := by decide +kernel
theorem dX2_pay_17 : decode cX2_pay 17 = .ok (.putfield 31, 3) := by decide +kernel
theorem dX2_pay_20 : decode cX2_pay 20 = .ok (.aload_n 0, 1) := by decide +kernel
theorem dX2_pay_21 : decode cX2_pay 21 = .ok (.dup, 1) := by decide +kernel
theorem dX2_pay_22 : decode cX2_pay 22 = .ok (.getfield 21, 3) := by decide +kernel
theorem dX2_pay_25 : decode cX2_pay 25 = .ok (.iload_n 2, 1) := by decide +kernel
theorem dX2_pay_26 : decode cX2_pay 26 = .ok (.iadd, 1) := by decide +kernel
theorem dX2_pay_27 : decode cX2_pay 27 = .ok (.putfield 21, 3) := by decide +kernel
theorem dX2_pay_30 : decode cX2_pay 30 = .ok (.return_, 1) := by decide +kernel
set_option maxRecDepth 20000 in
theorem ggX2_putByRule_X3_pick : GoodIn wsX2_putByRule wsX3_pick := goodIn_r _ [8, 9, 10, 11, 12, 7, 13, 14, 15, 16, 17, 18, 19, 20, 21, 22, 23, 24, 25, 26, 27, 28, 29, 50, 51, 52, 53, 54, 55] (by decide +kernel) (by decide +kernel)
set_option maxRecDepth 20000 in
theorem gX2_putByRule_X3_pick : GoodIn wsX2_putByRule (wsV RX2 53 RX3 yX3_pick wsX3_pick) := goodIn_app (goodIn_of _ (by decide +kernel)) ggX2_putByRule_X3_pick
set_option maxRecDepth 20000 in
theorem ggX2_putByRule_X3_priceOf : GoodIn wsX2_putByRule wsX3_priceOf := goodIn_r _ [33, 9, 34, 35, 7, 36, 50, 51, 52, 53, 54, 55] (by decide +kernel) (by decide +kernel)
set_option maxRecDepth 20000 in
theorem gX2_putByRule_X3_priceOf : GoodIn wsX2_putByRule (wsV RX2 45 RX3 yX3_priceOf wsX3_priceOf) := goodIn_app (goodIn_of _ (by decide +kernel)) ggX2_putByRule_X3_priceOf
set_option maxRecDepth 20000 in
theorem ggX2_putByRule_X2_pay : GoodIn wsX2_putByRule wsX2_pay := goodIn_r _ [41, 2, 3, 42, 43, 44, 45, 46, 47, 48, 49] (by decide +kernel) (by decide +kernel)
set_option maxRecDepth 20000 in
theorem gX2_putByRule_X2_pay : GoodIn wsX2_putByRule (wsV RX2 49 RX2 yX2_pay wsX2_pay) := goodIn_app (goodIn_of _ (by decide +kernel)) ggX2_putByRule_X2_pay
theorem dX2_putByRule_0 : decode cX2_putByRule 0 = .ok (.iconst 0, 1) := by decide +kernel
theorem dX2_putByRule_1 : decode cX2_putByRule 1 = .ok (.istore_n 3, 1) := by decide +kernel
theorem dX2_putByRule_2 : decode cX2_putByRule 2 = .ok (.iload_n 3, 1) := by decide +kernel
theorem dX2_putByRule_3 : decode cX2_putByRule 3 = .ok (.bipush 10, 2) := by decide +kernel
theorem dX2_putByRule_5 : decode cX2_putByRule 5 = .ok (.if_icmp .ge 51, 3) := by decide +kernel
theorem dX2_putByRule_8 : decode cX2_putByRule 8 = .ok (.aload_n 1, 1) := by decide +kernel
theorem dX2_putByRule_9 : decode cX2_putByRule 9 = .ok (.iload_n 2, 1) := by decide +kernel
theorem dX2_putByRule_10 : decode cX2_putByRule 10 = .ok (.aload_n 0, 1) := by decide +kernel
theorem dX2_putByRule_11 : decode cX2_putByRule 11 = .ok (.getfield 9, 3) := by decide +kernel
theorem dX2_putByRule_14 : decode cX2_putByRule 14 = .ok (.aload_n 0, 1) := by decide +kernel
theorem dX2_putByRule_15 : decode cX2_putByRule 15 = .ok (.getfield 15, 3) := by decide +kernel
theorem dX2_putByRule_18 : decode cX2_putByRule 18 = .ok (.aload_n 0, 1) := by decide +kernel
theorem dX2_putByRule_19 : decode cX2_putByRule 19 = .ok (.getfield 31, 3) := by decide +kernel
theorem dX2_putByRule_22 : decode cX2_putByRule 22 = .ok (.invokevirtual 53, 3) := by decide +kernel
theorem dX2_putByRule_25 : decode cX2_putByRule 25 = .ok (.istore 4, 2) := by decide +kernel
theorem dX2_putByRule_27 : decode cX2_putByRule 27 = .ok (.iload 4, 2) := by decide +kernel
theorem dX2_putByRule_29 : decode cX2_putByRule 29 = .ok (.iconst (-1), 1) := by decide +kernel
theorem dX2_putByRule_30 : decode cX2_putByRule 30 = .ok (.if_icmp .ne 4, 3) := by decide +kernel
theorem dX2_putByRule_33 : decode cX2_putByRule 33 = .ok (.return_, 1) := by decide +kernel
theorem dX2_putByRule_34 : decode cX2_putByRule 34 = .ok (.aload_n 0, 1) := by decide +kernel
theorem dX2_putByRule_35 : decode cX2_putByRule 35 = .ok (.iconst 1, 1) := by decide +kernel
theorem dX2_putByRule_36 : decode cX2_putByRule 36 = .ok (.iload 4, 2) := by decide +kernel
theorem dX2_putByRule_38 : decode cX2_putByRule 38 = .ok (.ishl, 1) := by decide +kernel
theorem dX2_putByRule_39 : decode cX2_putByRule 39 = .ok (.aload_n 1, 1) := by decide +kernel
theorem dX2_putByRule_40 : decode cX2_putByRule 40 = .ok (.iconst 1, 1) := by decide +kernel
theorem dX2_putByRule_41 : decode cX2_putByRule 41 = .ok (.iload 4, 2) := by decide +kernel
theorem dX2_putByRule_43 : decode cX2_putByRule 43 = .ok (.ishl, 1) := by decide +kernel
theorem dX2_putByRule_44 : decode cX2_putByRule 44 = .ok (.invokevirtual 45, 3) := by decide +kernel
theorem dX2_putByRule_47 : decode cX2_putByRule 47 = .ok (.invokevirtual 49, 3) := by decide +kernel
theorem dX2_putByRule_50 : decode cX2_putByRule 50 = .ok (.iinc 3 1, 3) := by decide +kernel
theorem dX2_putByRule_53 : decode cX2_putByRule 53 = .ok (.goto (-51), 3) := by decide +kernel
theorem dX2_putByRule_56 : decode cX2_putByRule 56 = .ok (.return_, 1) := by decide +kernel
set_option maxRecDepth 20000 in
theorem ggX2_spread_X3_threatened : GoodIn wsX2_spread wsX3_threatened := goodIn_r _ [9, 10, 11, 12, 13, 21, 22, 23, 24, 25, 26] (by decide +kernel) (by decide +kernel)
set_option maxRecDepth 20000 in
theorem gX2_spread_X3_threatened : GoodIn wsX2_spread (wsV RX2 57 RX3 yX3_threatened wsX3_threatened) := goodIn_app (goodIn_of _ (by decide +kernel)) ggX2_spread_X3_threatened
theorem dX2_spread_0 : decode cX2_spread 0 = .ok (.aload_n 0, 1) := by decide +kernel
theorem dX2_spread_1 : decode cX2_spread 1 = .ok (.getfield 24, 3) := by decide +kernel
theorem dX2_spread_4 : decode cX2_spread 4 = .ok (.ifCond .eq 4, 3) := by decide +kernel
theorem dX2_spread_7 : decode cX2_spread 7 = .ok (.return_, 1) := by decide +kernel
theorem dX2_spread_8 : decode cX2_spread 8 = .ok (.aload_n 1, 1) := by decide +kernel
theorem dX2_spread_9 : decode cX2_spread 9 = .ok (.aload_n 0, 1) := by decide +kernel
theorem dX2_spread_10 : decode cX2_spread 10 = .ok (.getfield 9, 3) := by decide +kernel
theorem dX2_spread_13 : decode cX2_spread 13 = .ok (.aload_n 0, 1) := by decide +kernel
theorem dX2_spread_14 : decode cX2_spread 14 = .ok (.getfield 15, 3) := by decide +kernel
theorem dX2_spread_17 : decode cX2_spread 17 = .ok (.invokevirtual 57, 3) := by decide +kernel
theorem dX2_spread_20 : decode cX2_spread 20 = .ok (.istore_n 2, 1) := by decide +kernel
theorem dX2_spread_21 : decode cX2_spread 21 = .ok (.aload_n 0, 1) := by decide +kernel
theorem dX2_spread_22 : decode cX2_spread 22 = .ok (.dup, 1) := by decide +kernel
theorem dX2_spread_23 : decode cX2_spread 23 = .ok (.getfield 9, 3) := by decide +kernel
theorem dX2_spread_26 : decode cX2_spread 26 = .ok (.iload_n 2, 1) := by decide +kernel
theorem dX2_spread_27 : decode cX2_spread 27 = .ok (.ior, 1) := by decide +kernel
theorem dX2_spread_28 : decode cX2_spread 28 = .ok (.putfield 9, 3) := by decide +kernel
theorem dX2_spread_31 : decode cX2_spread 31 = .ok (.aload_n 0, 1) := by decide +kernel
theorem dX2_spread_32 : decode cX2_spread 32 = .ok (.iload_n 2, 1) := by decide +kernel
theorem dX2_spread_33 : decode cX2_spread 33 = .ok (.ifCond .ne 7, 3) := by decide +kernel
theorem dX2_spread_36 : decode cX2_spread 36 = .ok (.iconst 1, 1) := by decide +kernel
theorem dX2_spread_37 : decode cX2_spread 37 = .ok (.goto 4, 3) := by decide +kernel
theorem dX2_spread_40 : decode cX2_spread 40 = .ok (.iconst 0, 1) := by decide +kernel
theorem dX2_spread_41 : decode cX2_spread 41 = .ok (.putfield 28, 3) := by decide +kernel
theorem dX2_spread_44 : decode cX2_spread 44 = .ok (.return_, 1) := by decide +kernel
set_option maxRecDepth 20000 in
theorem ggX3_init_X3_renew : GoodIn wsX3_init wsX3_renew := goodIn_r _ [13, 14, 15, 5, 6, 7, 16, 17, 18, 19, 20, 21, 22, 23, 24, 25] (by decide +kernel) (by decide +kernel)
set_option maxRecDepth 20000 in
theorem gX3_init_X3_renew : GoodIn wsX3_init (wsV RX3 24 RX3 yX3_renew wsX3_renew) := goodIn_app (goodIn_of _ (by decide +kernel)) ggX3_init_X3_renew
theorem dX3_init_0 : decode cX3_init 0 = .ok (.aload_n 0, 1) := by decide +kernel
theorem dX3_init_1 : decode cX3_init 1 = .ok (.invokespecial 3, 3) := by decide +kernel
theorem dX3_init_4 : decode cX3_init 4 = .ok (.aload_n 0, 1) := by decide +kernel
theorem dX3_init_5 : decode cX3_init 5 = .ok (.bipush 10, 2) := by decide +kernel
theorem dX3_init_7 : decode cX3_init 7 = .ok (.newarray .int, 2) := by decide +kernel
theorem dX3_init_9 : decode cX3_init 9 = .ok (.putfield 9, 3) := by decide +kernel
theorem dX3_init_12 : decode cX3_init 12 = .ok (.aload_n 0, 1) := by decide +kernel
theorem dX3_init_13 : decode cX3_init 13 = .ok (.bipush 10, 2) := by decide +kernel
theorem dX3_init_15 : decode cX3_init 15 = .ok (.newarray .int, 2) := by decide +kernel
theorem dX3_init_17 : decode cX3_init 17 = .ok (.putfield 15, 3) := by decide +kernel
theorem dX3_init_20 : decode cX3_init 20 = .ok (.aload_n 0, 1) := by decide +kernel
theorem dX3_init_21 : decode cX3_init 21 = .ok (.bipush 10, 2) := by decide +kernel
theorem dX3_init_23 : decode cX3_init 23 = .ok (.newarray .int, 2) := by decide +kernel
theorem dX3_init_25 : decode cX3_init 25 = .ok (.putfield 18, 3) := by decide +kernel
theorem dX3_init_28 : decode cX3_init 28 = .ok (.aload_n 0, 1) := by decide +kernel
theorem dX3_init_29 : decode cX3_init 29 = .ok (.bipush 24, 2) := by decide +kernel
theorem dX3_init_31 : decode cX3_init 31 = .ok (.newarray .int, 2) := by decide +kernel
theorem dX3_init_33 : decode cX3_init 33 = .ok (.putfield 21, 3) := by decide +kernel
theorem dX3_init_36 : decode cX3_init 36 = .ok (.aload_n 0, 1) := by decide +kernel
theorem dX3_init_37 : decode cX3_init 37 = .ok (.iconst 1, 1) := by decide +kernel
theorem dX3_init_38 : decode cX3_init 38 = .ok (.invokevirtual 24, 3) := by decide +kernel
theorem dX3_init_41 : decode cX3_init 41 = .ok (.return_, 1) := by decide +kernel
set_option maxRecDepth 20000 in
theorem ggX3_renew_J7_fill_53178 : GoodIn wsX3_renew wsJ7_fill_53178 := goodIn_r _ [9] (by decide +kernel) (by decide +kernel)
set_option maxRecDepth 20000 in
theorem gX3_renew_J7_fill_53178 : GoodIn wsX3_renew (va_wsS RX3 35 yJ7_fill_53178 wsJ7_fill_53178) := goodIn_app (goodIn_of _ (by decide +kernel)) ggX3_renew_J7_fill_53178
theorem dX3_renew_0 : decode cX3_renew 0 = .ok (.aload_n 0, 1) := by decide +kernel
theorem dX3_renew_1 : decode cX3_renew 1 = .ok (.iload_n 1, 1) := by decide +kernel
theorem dX3_renew_2 : decode cX3_renew 2 = .ok (.putfield 28, 3) := by decide +kernel
theorem dX3_renew_5 : decode cX3_renew 5 = .ok (.aload_n 0, 1) := by decide +kernel
theorem dX3_renew_6 : decode cX3_renew 6 = .ok (.iconst 0, 1) := by decide +kernel
theorem dX3_renew_7 : decode cX3_renew 7 = .ok (.putfield 32, 3) := by decide +kernel
theorem dX3_renew_10 : decode cX3_renew 10 = .ok (.aload_n 0, 1) := by decide +kernel
theorem dX3_renew_11 : decode cX3_renew 11 = .ok (.getfield 9, 3) := by decide +kernel
theorem dX3_renew_14 : decode cX3_renew 14 = .ok (.iconst 1, 1) := by decide +kernel
theorem dX3_renew_15 : decode cX3_renew 15 = .ok (.invokestatic 35, 3) := by decide +kernel
theorem dX3_renew_18 : decode cX3_renew 18 = .ok (.aload_n 0, 1) := by decide +kernel
theorem dX3_renew_19 : decode cX3_renew 19 = .ok (.getfield 15, 3) := by decide +kernel
theorem dX3_renew_22 : decode cX3_renew 22 = .ok (.iconst 1, 1) := by decide +kernel
theorem dX3_renew_23 : decode cX3_renew 23 = .ok (.invokestatic 35, 3) := by decide +kernel
theorem dX3_renew_26 : decode cX3_renew 26 = .ok (.aload_n 0, 1) := by decide +kernel
theorem dX3_renew_27 : decode cX3_renew 27 = .ok (.getfield 18, 3) := by decide +kernel
theorem dX3_renew_30 : decode cX3_renew 30 = .ok (.iconst 0, 1) := by decide +kernel
theorem dX3_renew_31 : decode cX3_renew 31 = .ok (.invokestatic 35, 3) := by decide +kernel
theorem dX3_renew_34 : decode cX3_renew 34 = .ok (.return_, 1) := by decide +kernel
set_option maxRecDepth 20000 in
theorem ggX3_has_X6_within : GoodIn wsX3_has wsX6_within := goodIn_r _ [4] (by decide +kernel) (by decide +kernel)
set_option maxRecDepth 20000 in
theorem gX3_has_X6_within_n41 : GoodIn wsX3_has (wsX6_within) := ggX3_has_X6_within
theorem dX3_has_0 : decode cX3_has 0 = .ok (.iload_n 1, 1) := by decide +kernel
theorem dX3_has_1 : decode cX3_has 1 = .ok (.iconst 0, 1) := by decide +kernel
theorem dX3_has_2 : decode cX3_has 2 = .ok (.aload_n 0, 1) := by decide +kernel
theorem dX3_has_3 : decode cX3_has 3 = .ok (.getfield 28, 3) := by decide +kernel
theorem dX3_has_6 : decode cX3_has 6 = .ok (.iconst 1, 1) := by decide +kernel
theorem dX3_has_7 : decode cX3_has 7 = .ok (.isub, 1) := by decide +kernel
theorem dX3_has_8 : decode cX3_has 8 = .ok (.invokestatic 41, 3) := by decide +kernel
theorem dX3_has_11 : decode cX3_has 11 = .ok (.ireturn, 1) := by decide +kernel
theorem dX3_all_0 : decode cX3_all 0 = .ok (.iconst 1, 1) := by decide +kernel
theorem dX3_all_1 : decode cX3_all 1 = .ok (.aload_n 0, 1) := by decide +kernel
theorem dX3_all_2 : decode cX3_all 2 = .ok (.getfield 28, 3) := by decide +kernel
theorem dX3_all_5 : decode cX3_all 5 = .ok (.ishl, 1) := by decide +kernel
theorem dX3_all_6 : decode cX3_all 6 = .ok (.iconst 1, 1) := by decide +kernel
theorem dX3_all_7 : decode cX3_all 7 = .ok (.isub, 1) := by decide +kernel
theorem dX3_all_8 : decode cX3_all 8 = .ok (.ireturn, 1) := by decide +kernel
set_option maxRecDepth 20000 in
theorem ggX3_isStart_X3_all : GoodIn wsX3_isStart wsX3_all := goodIn_r _ [5, 6, 10, 11, 12, 13, 14, 15] (by decide +kernel) (by decide +kernel)
set_option maxRecDepth 20000 in
theorem gX3_isStart_X3_all : GoodIn wsX3_isStart (wsV RX3 45 RX3 yX3_all wsX3_all) := goodIn_app (goodIn_of _ (by decide +kernel)) ggX3_isStart_X3_all
set_option maxRecDepth 20000 in
theorem ggX3_isStart_X6_within : GoodIn wsX3_isStart wsX6_within := goodIn_r _ [9] (by decide +kernel) (by decide +kernel)
set_option maxRecDepth 20000 in
theorem gX3_isStart_X6_within_n41 : GoodIn wsX3_isStart (wsX6_within) := ggX3_isStart_X6_within
theorem dX3_isStart_0 : decode cX3_isStart 0 = .ok (.iload_n 1, 1) := by decide +kernel
theorem dX3_isStart_1 : decode cX3_isStart 1 = .ok (.iconst 1, 1) := by decide +kernel
theorem dX3_isStart_2 : decode cX3_isStart 2 = .ok (.aload_n 0, 1) := by decide +kernel
theorem dX3_isStart_3 : decode cX3_isStart 3 = .ok (.invokevirtual 45, 3) := by decide +kernel
theorem dX3_isStart_6 : decode cX3_isStart 6 = .ok (.invokestatic 41, 3) := by decide +kernel
theorem dX3_isStart_9 : decode cX3_isStart 9 = .ok (.ireturn, 1) := by decide +kernel
set_option maxRecDepth 20000 in
theorem ggX3_joined_X3_nearTo : GoodIn wsX3_joined wsX3_nearTo := goodIn_r _ [5, 6, 10, 11, 12, 13, 14, 15] (by decide +kernel) (by decide +kernel)
set_option maxRecDepth 20000 in
theorem gX3_joined_X3_nearTo : GoodIn wsX3_joined (wsV RX3 49 RX3 yX3_nearTo wsX3_nearTo) := goodIn_app (goodIn_of _ (by decide +kernel)) ggX3_joined_X3_nearTo
set_option maxRecDepth 20000 in
theorem ggX3_joined_X6_holds : GoodIn wsX3_joined wsX6_holds := goodIn_r _ [9] (by decide +kernel) (by decide +kernel)
set_option maxRecDepth 20000 in
theorem gX3_joined_X6_holds_n53 : GoodIn wsX3_joined (wsX6_holds) := ggX3_joined_X6_holds
theorem dX3_joined_0 : decode cX3_joined 0 = .ok (.aload_n 0, 1) := by decide +kernel
theorem dX3_joined_1 : decode cX3_joined 1 = .ok (.iload_n 1, 1) := by decide +kernel
theorem dX3_joined_2 : decode cX3_joined 2 = .ok (.invokevirtual 49, 3) := by decide +kernel
theorem dX3_joined_5 : decode cX3_joined 5 = .ok (.iload_n 2, 1) := by decide +kernel
theorem dX3_joined_6 : decode cX3_joined 6 = .ok (.invokestatic 53, 3) := by decide +kernel
theorem dX3_joined_9 : decode cX3_joined 9 = .ok (.ireturn, 1) := by decide +kernel
theorem dX3_nearTo_0 : decode cX3_nearTo 0 = .ok (.iload_n 1, 1) := by decide +kernel
theorem dX3_nearTo_1 : decode cX3_nearTo 1 = .ok (.ifCond .lt 9, 3) := by decide +kernel
theorem dX3_nearTo_4 : decode cX3_nearTo 4 = .ok (.iload_n 1, 1) := by decide +kernel
theorem dX3_nearTo_5 : decode cX3_nearTo 5 = .ok (.bipush 10, 2) := by decide +kernel
theorem dX3_nearTo_7 : decode cX3_nearTo 7 = .ok (.if_icmp .lt 7, 3) := by decide +kernel
theorem dX3_nearTo_10 : decode cX3_nearTo 10 = .ok (.iconst 0, 1) := by decide +kernel
theorem dX3_nearTo_11 : decode cX3_nearTo 11 = .ok (.goto 9, 3) := by decide +kernel
theorem dX3_nearTo_14 : decode cX3_nearTo 14 = .ok (.aload_n 0, 1) := by decide +kernel
theorem dX3_nearTo_15 : decode cX3_nearTo 15 = .ok (.getfield 18, 3) := by decide +kernel
theorem dX3_nearTo_18 : decode cX3_nearTo 18 = .ok (.iload_n 1, 1) := by decide +kernel
theorem dX3_nearTo_19 : decode cX3_nearTo 19 = .ok (.iaload, 1) := by decide +kernel
theorem dX3_nearTo_20 : decode cX3_nearTo 20 = .ok (.ireturn, 1) := by decide +kernel
theorem dX3_endsOf_0 : decode cX3_endsOf 0 = .ok (.iload_n 1, 1) := by decide +kernel
theorem dX3_endsOf_1 : decode cX3_endsOf 1 = .ok (.ifCond .lt 9, 3) := by decide +kernel
theorem dX3_endsOf_4 : decode cX3_endsOf 4 = .ok (.iload_n 1, 1) := by decide +kernel
theorem dX3_endsOf_5 : decode cX3_endsOf 5 = .ok (.bipush 24, 2) := by decide +kernel
theorem dX3_endsOf_7 : decode cX3_endsOf 7 = .ok (.if_icmp .lt 7, 3) := by decide +kernel
theorem dX3_endsOf_10 : decode cX3_endsOf 10 = .ok (.iconst 0, 1) := by decide +kernel
theorem dX3_endsOf_11 : decode cX3_endsOf 11 = .ok (.goto 9, 3) := by decide +kernel
theorem dX3_endsOf_14 : decode cX3_endsOf 14 = .ok (.aload_n 0, 1) := by decide +kernel
theorem dX3_endsOf_15 : decode cX3_endsOf 15 = .ok (.getfield 21, 3) := by decide +kernel
theorem dX3_endsOf_18 : decode cX3_endsOf 18 = .ok (.iload_n 1, 1) := by decide +kernel
theorem dX3_endsOf_19 : decode cX3_endsOf 19 = .ok (.iaload, 1) := by decide +kernel
theorem dX3_endsOf_20 : decode cX3_endsOf 20 = .ok (.ireturn, 1) := by decide +kernel
set_option maxRecDepth 20000 in
theorem ggX3_join_X3_has : GoodIn wsX3_join wsX3_has := goodIn_r _ [8, 9, 10, 11, 12, 13, 14, 15, 16, 17, 18] (by decide +kernel) (by decide +kernel)
set_option maxRecDepth 20000 in
theorem gX3_join_X3_has : GoodIn wsX3_join (wsV RX3 57 RX3 yX3_has wsX3_has) := goodIn_app (goodIn_of _ (by decide +kernel)) ggX3_join_X3_has
theorem dX3_join_0 : decode cX3_join 0 = .ok (.aload_n 0, 1) := by decide +kernel
theorem dX3_join_1 : decode cX3_join 1 = .ok (.getfield 32, 3) := by decide +kernel
theorem dX3_join_4 : decode cX3_join 4 = .ok (.bipush 24, 2) := by decide +kernel
theorem dX3_join_6 : decode cX3_join 6 = .ok (.if_icmp .ge 19, 3) := by decide +kernel
theorem dX3_join_9 : decode cX3_join 9 = .ok (.aload_n 0, 1) := by decide +kernel
theorem dX3_join_10 : decode cX3_join 10 = .ok (.iload_n 1, 1) := by decide +kernel
theorem dX3_join_11 : decode cX3_join 11 = .ok (.invokevirtual 57, 3) := by decide +kernel
theorem dX3_join_14 : decode cX3_join 14 = .ok (.ifCond .eq 11, 3) := by decide +kernel
theorem dX3_join_17 : decode cX3_join 17 = .ok (.aload_n 0, 1) := by decide +kernel
theorem dX3_join_18 : decode cX3_join 18 = .ok (.iload_n 2, 1) := by decide +kernel
theorem dX3_join_19 : decode cX3_join 19 = .ok (.invokevirtual 57, 3) := by decide +kernel
theorem dX3_join_22 : decode cX3_join 22 = .ok (.ifCond .ne 5, 3) := by decide +kernel
theorem dX3_join_25 : decode cX3_join 25 = .ok (.iconst (-1), 1) := by decide +kernel
theorem dX3_join_26 : decode cX3_join 26 = .ok (.ireturn, 1) := by decide +kernel
theorem dX3_join_27 : decode cX3_join 27 = .ok (.aload_n 0, 1) := by decide +kernel
theorem dX3_join_28 : decode cX3_join 28 = .ok (.getfield 18, 3) := by decide +kernel
theorem dX3_join_31 : decode cX3_join 31 = .ok (.iload_n 1, 1) := by decide +kernel
theorem dX3_join_32 : decode cX3_join 32 = .ok (.dup2, 1) := by decide +kernel
theorem dX3_join_33 : decode cX3_join 33 = .ok (.iaload, 1) := by decide +kernel
theorem dX3_join_34 : decode cX3_join 34 = .ok (.iconst 1, 1) := by decide +kernel
theorem dX3_join_35 : decode cX3_join 35 = .ok (.iload_n 2, 1) := by decide +kernel
theorem dX3_join_36 : decode cX3_join 36 = .ok (.ishl, 1) := by decide +kernel
theorem dX3_join_37 : decode cX3_join 37 = .ok (.ior, 1) := by decide +kernel
theorem dX3_join_38 : decode cX3_join 38 = .ok (.iastore, 1) := by decide +kernel
theorem dX3_join_39 : decode cX3_join 39 = .ok (.aload_n 0, 1) := by decide +kernel
theorem dX3_join_40 : decode cX3_join 40 = .ok (.getfield 18, 3) := by decide +kernel
theorem dX3_join_43 : decode cX3_join 43 = .ok (.iload_n 2, 1) := by decide +kernel
theorem dX3_join_44 : decode cX3_join 44 = .ok (.dup2, 1) := by decide +kernel
theorem dX3_join_45 : decode cX3_join 45 = .ok (.iaload, 1) := by decide +kernel
theorem dX3_join_46 : decode cX3_join 46 = .ok (.iconst 1, 1) := by decide +kernel
theorem dX3_join_47 : decode cX3_join 47 = .ok (.iload_n 1, 1) := by decide +kernel
theorem dX3_join_48 : decode cX3_join 48 = .ok (.ishl, 1) := by decide +kernel
theorem dX3_join_49 : decode cX3_join 49 = .ok (.ior, 1) := by decide +kernel
theorem dX3_join_50 : decode cX3_join 50 = .ok (.iastore, 1) := by decide +kernel
theorem dX3_join_51 : decode cX3_join 51 = .ok (.aload_n 0, 1) := by decide +kernel
theorem dX3_join_52 : decode cX3_join 52 = .ok (.getfield 21, 3) := by decide +kernel
theorem dX3_join_55 : decode cX3_join 55 = .ok (.aload_n 0, 1) := by decide +kernel
theorem dX3_join_56 : decode cX3_join 56 = .ok (.getfield 32, 3) := by decide +kernel
theorem dX3_join_59 : decode cX3_join 59 = .ok (.iconst 1, 1) := by decide +kernel
theorem dX3_join_60 : decode cX3_join 60 = .ok (.iload_n 1, 1) := by decide +kernel
theorem dX3_join_61 : decode cX3_join 61 = .ok (.ishl, 1) := by decide +kernel
theorem dX3_join_62 : decode cX3_join 62 = .ok (.iconst 1, 1) := by decide +kernel
theorem dX3_join_63 : decode cX3_join 63 = .ok (.iload_n 2, 1) := by decide +kernel
theorem dX3_join_64 : decode cX3_join 64 = .ok (.ishl, 1) := by decide +kernel
theorem dX3_join_65 : decode cX3_join 65 = .ok (.ior, 1) := by decide +kernel
theorem dX3_join_66 : decode cX3_join 66 = .ok (.iastore, 1) := by decide +kernel
theorem dX3_join_67 : decode cX3_join 67 = .ok (.aload_n 0, 1) := by decide +kernel
theorem dX3_join_68 : decode cX3_join 68 = .ok (.dup, 1) := by decide +kernel
theorem dX3_join_69 : decode cX3_join 69 = .ok (.getfield 32, 3) := by decide +kernel
theorem dX3_join_72 : decode cX3_join 72 = .ok (.iconst 1, 1) := by decide +kernel
theorem dX3_join_73 : decode cX3_join 73 = .ok (.iadd, 1) := by decide +kernel
theorem dX3_join_74 : decode cX3_join 74 = .ok (.putfield 32, 3) := by decide +kernel
theorem dX3_join_77 : decode cX3_join 77 = .ok (.aload_n 0, 1) := by decide +kernel
theorem dX3_join_78 : decode cX3_join 78 = .ok (.getfield 32, 3) := by decide +kernel
theorem dX3_join_81 : decode cX3_join 81 = .ok (.iconst 1, 1) := by decide +kernel
theorem dX3_join_82 : decode cX3_join 82 = .ok (.isub, 1) := by decide +kernel
theorem dX3_join_83 : decode cX3_join 83 = .ok (.ireturn, 1) := by decide +kernel
set_option maxRecDepth 20000 in
theorem ggX3_worthOf_X3_sumOver : GoodIn wsX3_worthOf wsX3_sumOver := goodIn_r _ [5] (by decide +kernel) (by decide +kernel)
set_option maxRecDepth 20000 in
theorem gX3_worthOf_X3_sumOver : GoodIn wsX3_worthOf (va_wsS RX3 61 yX3_sumOver wsX3_sumOver) := goodIn_app (goodIn_of _ (by decide +kernel)) ggX3_worthOf_X3_sumOver
theorem dX3_worthOf_0 : decode cX3_worthOf 0 = .ok (.aload_n 0, 1) := by decide +kernel
theorem dX3_worthOf_1 : decode cX3_worthOf 1 = .ok (.getfield 9, 3) := by decide +kernel
theorem dX3_worthOf_4 : decode cX3_worthOf 4 = .ok (.iload_n 1, 1) := by decide +kernel
theorem dX3_worthOf_5 : decode cX3_worthOf 5 = .ok (.invokestatic 61, 3) := by decide +kernel
theorem dX3_worthOf_8 : decode cX3_worthOf 8 = .ok (.ireturn, 1) := by decide +kernel
set_option maxRecDepth 20000 in
theorem ggX3_priceOf_X3_sumOver : GoodIn wsX3_priceOf wsX3_sumOver := goodIn_r _ [5] (by decide +kernel) (by decide +kernel)
set_option maxRecDepth 20000 in
theorem gX3_priceOf_X3_sumOver : GoodIn wsX3_priceOf (va_wsS RX3 61 yX3_sumOver wsX3_sumOver) := goodIn_app (goodIn_of _ (by decide +kernel)) ggX3_priceOf_X3_sumOver
theorem dX3_priceOf_0 : decode cX3_priceOf 0 = .ok (.aload_n 0, 1) := by decide +kernel
theorem dX3_priceOf_1 : decode cX3_priceOf 1 = .ok (.getfield 15, 3) := by decide +kernel
theorem dX3_priceOf_4 : decode cX3_priceOf 4 = .ok (.iload_n 1, 1) := by decide +kernel
theorem dX3_priceOf_5 : decode cX3_priceOf 5 = .ok (.invokestatic 61, 3) := by decide +kernel
theorem dX3_priceOf_8 : decode cX3_priceOf 8 = .ok (.ireturn, 1) := by decide +kernel
theorem dX3_sumOver_0 : decode cX3_sumOver 0 = .ok (.iconst 0, 1) := by decide +kernel
theorem dX3_sumOver_1 : decode cX3_sumOver 1 = .ok (.istore_n 2, 1) := by decide +kernel
theorem dX3_sumOver_2 : decode cX3_sumOver 2 = .ok (.iconst 0, 1) := by decide +kernel
theorem dX3_sumOver_3 : decode cX3_sumOver 3 = .ok (.istore_n 3, 1) := by decide +kernel
theorem dX3_sumOver_4 : decode cX3_sumOver 4 = .ok (.iload_n 3, 1) := by decide +kernel
theorem dX3_sumOver_5 : decode cX3_sumOver 5 = .ok (.aload_n 0, 1) := by decide +kernel
theorem dX3_sumOver_6 : decode cX3_sumOver 6 = .ok (.arraylength, 1) := by decide +kernel
theorem dX3_sumOver_7 : decode cX3_sumOver 7 = .ok (.if_icmp .ge 21, 3) := by decide +kernel
theorem dX3_sumOver_10 : decode cX3_sumOver 10 = .ok (.iload_n 2, 1) := by decide +kernel
theorem dX3_sumOver_11 : decode cX3_sumOver 11 = .ok (.aload_n 0, 1) := by decide +kernel
theorem dX3_sumOver_12 : decode cX3_sumOver 12 = .ok (.iload_n 3, 1) := by decide +kernel
theorem dX3_sumOver_13 : decode cX3_sumOver 13 = .ok (.iaload, 1) := by decide +kernel
theorem dX3_sumOver_14 : decode cX3_sumOver 14 = .ok (.iload_n 1, 1) := by decide +kernel
theorem dX3_sumOver_15 : decode cX3_sumOver 15 = .ok (.iload_n 3, 1) := by decide +kernel
theorem dX3_sumOver_16 : decode cX3_sumOver 16 = .ok (.ishr, 1) := by decide +kernel
theorem dX3_sumOver_17 : decode cX3_sumOver 17 = .ok (.iconst 1, 1) := by decide +kernel
theorem dX3_sumOver_18 : decode cX3_sumOver 18 = .ok (.iand, 1) := by decide +kernel
theorem dX3_sumOver_19 : decode cX3_sumOver 19 = .ok (.imul, 1) := by decide +kernel
theorem dX3_sumOver_20 : decode cX3_sumOver 20 = .ok (.iadd, 1) := by decide +kernel
theorem dX3_sumOver_21 : decode cX3_sumOver 21 = .ok (.istore_n 2, 1) := by decide +kernel
theorem dX3_sumOver_22 : decode cX3_sumOver 22 = .ok (.iinc 3 1, 3) := by decide +kernel
theorem dX3_sumOver_25 : decode cX3_sumOver 25 = .ok (.goto (-21), 3) := by decide +kernel
theorem dX3_sumOver_28 : decode cX3_sumOver 28 = .ok (.iload_n 2, 1) := by decide +kernel
theorem dX3_sumOver_29 : decode cX3_sumOver 29 = .ok (.ireturn, 1) := by decide +kernel
set_option maxRecDepth 20000 in
theorem ggX3_savedFrom_X3_all : GoodIn wsX3_savedFrom wsX3_all := goodIn_r _ [6, 7, 11, 12, 13, 14, 15, 16] (by decide +kernel) (by decide +kernel)
set_option maxRecDepth 20000 in
theorem gX3_savedFrom_X3_all : GoodIn wsX3_savedFrom (wsV RX3 45 RX3 yX3_all wsX3_all) := goodIn_app (goodIn_of _ (by decide +kernel)) ggX3_savedFrom_X3_all
set_option maxRecDepth 20000 in
theorem ggX3_savedFrom_X3_sumOver : GoodIn wsX3_savedFrom wsX3_sumOver := goodIn_r _ [10] (by decide +kernel) (by decide +kernel)
set_option maxRecDepth 20000 in
theorem gX3_savedFrom_X3_sumOver : GoodIn wsX3_savedFrom (va_wsS RX3 61 yX3_sumOver wsX3_sumOver) := goodIn_app (goodIn_of _ (by decide +kernel)) ggX3_savedFrom_X3_sumOver
theorem dX3_savedFrom_0 : decode cX3_savedFrom 0 = .ok (.aload_n 0, 1) := by decide +kernel
theorem dX3_savedFrom_1 : decode cX3_savedFrom 1 = .ok (.getfield 9, 3) := by decide +kernel
theorem dX3_savedFrom_4 : decode cX3_savedFrom 4 = .ok (.aload_n 0, 1) := by decide +kernel
theorem dX3_savedFrom_5 : decode cX3_savedFrom 5 = .ok (.invokevirtual 45, 3) := by decide +kernel
theorem dX3_savedFrom_8 : decode cX3_savedFrom 8 = .ok (.iload_n 1, 1) := by decide +kernel
theorem dX3_savedFrom_9 : decode cX3_savedFrom 9 = .ok (.iconst (-1), 1) := by decide +kernel
theorem dX3_savedFrom_10 : decode cX3_savedFrom 10 = .ok (.ixor, 1) := by decide +kernel
theorem dX3_savedFrom_11 : decode cX3_savedFrom 11 = .ok (.iand, 1) := by decide +kernel
theorem dX3_savedFrom_12 : decode cX3_savedFrom 12 = .ok (.invokestatic 61, 3) := by decide +kernel
theorem dX3_savedFrom_15 : decode cX3_savedFrom 15 = .ok (.ireturn, 1) := by decide +kernel
set_option maxRecDepth 20000 in
theorem ggX3_threatened_X6_holds : GoodIn wsX3_threatened wsX6_holds := goodIn_r _ [4] (by decide +kernel) (by decide +kernel)
set_option maxRecDepth 20000 in
theorem gX3_threatened_X6_holds_n53 : GoodIn wsX3_threatened (wsX6_holds) := ggX3_threatened_X6_holds
theorem dX3_threatened_0 : decode cX3_threatened 0 = .ok (.iconst 0, 1) := by decide +kernel
theorem dX3_threatened_1 : decode cX3_threatened 1 = .ok (.istore_n 3, 1) := by decide +kernel
theorem dX3_threatened_2 : decode cX3_threatened 2 = .ok (.iconst 0, 1) := by decide +kernel
theorem dX3_threatened_3 : decode cX3_threatened 3 = .ok (.istore 4, 2) := by decide +kernel
theorem dX3_threatened_5 : decode cX3_threatened 5 = .ok (.iload 4, 2) := by decide +kernel
theorem dX3_threatened_7 : decode cX3_threatened 7 = .ok (.bipush 10, 2) := by decide +kernel
theorem dX3_threatened_9 : decode cX3_threatened 9 = .ok (.if_icmp .ge 28, 3) := by decide +kernel
theorem dX3_threatened_12 : decode cX3_threatened 12 = .ok (.iload_n 1, 1) := by decide +kernel
theorem dX3_threatened_13 : decode cX3_threatened 13 = .ok (.iload 4, 2) := by decide +kernel
theorem dX3_threatened_15 : decode cX3_threatened 15 = .ok (.invokestatic 53, 3) := by decide +kernel
theorem dX3_threatened_18 : decode cX3_threatened 18 = .ok (.ifCond .eq 13, 3) := by decide +kernel
theorem dX3_threatened_21 : decode cX3_threatened 21 = .ok (.iload_n 3, 1) := by decide +kernel
theorem dX3_threatened_22 : decode cX3_threatened 22 = .ok (.aload_n 0, 1) := by decide +kernel
theorem dX3_threatened_23 : decode cX3_threatened 23 = .ok (.getfield 18, 3) := by decide +kernel
theorem dX3_threatened_26 : decode cX3_threatened 26 = .ok (.iload 4, 2) := by decide +kernel
theorem dX3_threatened_28 : decode cX3_threatened 28 = .ok (.iaload, 1) := by decide +kernel
theorem dX3_threatened_29 : decode cX3_threatened 29 = .ok (.ior, 1) := by decide +kernel
theorem dX3_threatened_30 : decode cX3_threatened 30 = .ok (.istore_n 3, 1) := by decide +kernel
theorem dX3_threatened_31 : decode cX3_threatened 31 = .ok (.iinc 4 1, 3) := by decide +kernel
theorem dX3_threatened_34 : decode cX3_threatened 34 = .ok (.goto (-29), 3) := by decide +kernel
theorem dX3_threatened_37 : decode cX3_threatened 37 = .ok (.iload_n 3, 1) := by decide +kernel
theorem dX3_threatened_38 : decode cX3_threatened 38 = .ok (.iload_n 1, 1) := by decide +kernel
theorem dX3_threatened_39 : decode cX3_threatened 39 = .ok (.iconst (-1), 1) := by decide +kernel
theorem dX3_threatened_40 : decode cX3_threatened 40 = .ok (.ixor, 1) := by decide +kernel
theorem dX3_threatened_41 : decode cX3_threatened 41 = .ok (.iand, 1) := by decide +kernel
theorem dX3_threatened_42 : decode cX3_threatened 42 = .ok (.iload_n 2, 1) := by decide +kernel
theorem dX3_threatened_43 : decode cX3_threatened 43 = .ok (.iconst (-1), 1) := by decide +kernel
theorem dX3_threatened_44 : decode cX3_threatened 44 = .ok (.ixor, 1) := by decide +kernel
theorem dX3_threatened_45 : decode cX3_threatened 45 = .ok (.iand, 1) := by decide +kernel
theorem dX3_threatened_46 : decode cX3_threatened 46 = .ok (.ireturn, 1) := by decide +kernel
set_option maxRecDepth 20000 in
theorem ggX3_isLawful_X3_all : GoodIn wsX3_isLawful wsX3_all := goodIn_r _ [5, 6, 15, 16, 17, 18, 19, 20] (by decide +kernel) (by decide +kernel)
set_option maxRecDepth 20000 in
theorem gX3_isLawful_X3_all : GoodIn wsX3_isLawful (wsV RX3 45 RX3 yX3_all wsX3_all) := goodIn_app (goodIn_of _ (by decide +kernel)) ggX3_isLawful_X3_all
set_option maxRecDepth 20000 in
theorem ggX3_isLawful_X3_priceOf : GoodIn wsX3_isLawful wsX3_priceOf := goodIn_r _ [10, 11, 12, 13, 4, 14, 15, 16, 17, 18, 19, 20] (by decide +kernel) (by decide +kernel)
set_option maxRecDepth 20000 in
theorem gX3_isLawful_X3_priceOf : GoodIn wsX3_isLawful (wsV RX3 65 RX3 yX3_priceOf wsX3_priceOf) := goodIn_app (goodIn_of _ (by decide +kernel)) ggX3_isLawful_X3_priceOf
theorem dX3_isLawful_0 : decode cX3_isLawful 0 = .ok (.aload_n 0, 1) := by decide +kernel
theorem dX3_isLawful_1 : decode cX3_isLawful 1 = .ok (.invokevirtual 45, 3) := by decide +kernel
theorem dX3_isLawful_4 : decode cX3_isLawful 4 = .ok (.iload_n 2, 1) := by decide +kernel
theorem dX3_isLawful_5 : decode cX3_isLawful 5 = .ok (.iconst (-1), 1) := by decide +kernel
theorem dX3_isLawful_6 : decode cX3_isLawful 6 = .ok (.ixor, 1) := by decide +kernel
theorem dX3_isLawful_7 : decode cX3_isLawful 7 = .ok (.iand, 1) := by decide +kernel
theorem dX3_isLawful_8 : decode cX3_isLawful 8 = .ok (.iload_n 3, 1) := by decide +kernel
theorem dX3_isLawful_9 : decode cX3_isLawful 9 = .ok (.iconst (-1), 1) := by decide +kernel
theorem dX3_isLawful_10 : decode cX3_isLawful 10 = .ok (.ixor, 1) := by decide +kernel
theorem dX3_isLawful_11 : decode cX3_isLawful 11 = .ok (.iand, 1) := by decide +kernel
theorem dX3_isLawful_12 : decode cX3_isLawful 12 = .ok (.istore 5, 2) := by decide +kernel
theorem dX3_isLawful_14 : decode cX3_isLawful 14 = .ok (.iload_n 1, 1) := by decide +kernel
theorem dX3_isLawful_15 : decode cX3_isLawful 15 = .ok (.iload 5, 2) := by decide +kernel
theorem dX3_isLawful_17 : decode cX3_isLawful 17 = .ok (.iconst (-1), 1) := by decide +kernel
theorem dX3_isLawful_18 : decode cX3_isLawful 18 = .ok (.ixor, 1) := by decide +kernel
theorem dX3_isLawful_19 : decode cX3_isLawful 19 = .ok (.iand, 1) := by decide +kernel
theorem dX3_isLawful_20 : decode cX3_isLawful 20 = .ok (.ifCond .ne 17, 3) := by decide +kernel
theorem dX3_isLawful_23 : decode cX3_isLawful 23 = .ok (.aload_n 0, 1) := by decide +kernel
theorem dX3_isLawful_24 : decode cX3_isLawful 24 = .ok (.iload_n 1, 1) := by decide +kernel
theorem dX3_isLawful_25 : decode cX3_isLawful 25 = .ok (.invokevirtual 65, 3) := by decide +kernel
theorem dX3_isLawful_28 : decode cX3_isLawful 28 = .ok (.iload 4, 2) := by decide +kernel
theorem dX3_isLawful_30 : decode cX3_isLawful 30 = .ok (.if_icmp .gt 7, 3) := by decide +kernel
theorem dX3_isLawful_33 : decode cX3_isLawful 33 = .ok (.iconst 1, 1) := by decide +kernel
theorem dX3_isLawful_34 : decode cX3_isLawful 34 = .ok (.goto 4, 3) := by decide +kernel
theorem dX3_isLawful_37 : decode cX3_isLawful 37 = .ok (.iconst 0, 1) := by decide +kernel
theorem dX3_isLawful_38 : decode cX3_isLawful 38 = .ok (.ireturn, 1) := by decide +kernel
set_option maxRecDepth 20000 in
theorem ggX3_pick_X3_threatened : GoodIn wsX3_pick wsX3_threatened := goodIn_r _ [6, 7, 8, 9, 10, 23, 24, 25, 26, 27, 28] (by decide +kernel) (by decide +kernel)
set_option maxRecDepth 20000 in
theorem gX3_pick_X3_threatened : GoodIn wsX3_pick (wsV RX3 68 RX3 yX3_threatened wsX3_threatened) := goodIn_app (goodIn_of _ (by decide +kernel)) ggX3_pick_X3_threatened
set_option maxRecDepth 20000 in
theorem ggX3_pick_X6_holds : GoodIn wsX3_pick wsX6_holds := goodIn_r _ [10] (by decide +kernel) (by decide +kernel)
set_option maxRecDepth 20000 in
theorem gX3_pick_X6_holds_n53 : GoodIn wsX3_pick (wsX6_holds) := ggX3_pick_X6_holds
set_option maxRecDepth 20000 in
theorem ggX3_pick_X3_rankOf : GoodIn wsX3_pick wsX3_rankOf := goodIn_r _ [14, 15, 7, 16, 17, 18, 19, 20, 21, 22, 23, 24, 25, 26, 27, 28] (by decide +kernel) (by decide +kernel)
set_option maxRecDepth 20000 in
theorem gX3_pick_X3_rankOf : GoodIn wsX3_pick (wsV RX3 72 RX3 yX3_rankOf wsX3_rankOf) := goodIn_app (goodIn_of _ (by decide +kernel)) ggX3_pick_X3_rankOf
theorem dX3_pick_0 : decode cX3_pick 0 = .ok (.aload_n 0, 1) := by decide +kernel
theorem dX3_pick_1 : decode cX3_pick 1 = .ok (.iload_n 2, 1) := by decide +kernel
theorem dX3_pick_2 : decode cX3_pick 2 = .ok (.iload_n 3, 1) := by decide +kernel
theorem dX3_pick_3 : decode cX3_pick 3 = .ok (.invokevirtual 68, 3) := by decide +kernel
theorem dX3_pick_6 : decode cX3_pick 6 = .ok (.istore 5, 2) := by decide +kernel
theorem dX3_pick_8 : decode cX3_pick 8 = .ok (.iconst (-1), 1) := by decide +kernel
theorem dX3_pick_9 : decode cX3_pick 9 = .ok (.istore 6, 2) := by decide +kernel
theorem dX3_pick_11 : decode cX3_pick 11 = .ok (.iconst (-1), 1) := by decide +kernel
theorem dX3_pick_12 : decode cX3_pick 12 = .ok (.istore 7, 2) := by decide +kernel
theorem dX3_pick_14 : decode cX3_pick 14 = .ok (.iconst 0, 1) := by decide +kernel
theorem dX3_pick_15 : decode cX3_pick 15 = .ok (.istore 8, 2) := by decide +kernel
theorem dX3_pick_17 : decode cX3_pick 17 = .ok (.iload 8, 2) := by decide +kernel
theorem dX3_pick_19 : decode cX3_pick 19 = .ok (.bipush 10, 2) := by decide +kernel
theorem dX3_pick_21 : decode cX3_pick 21 = .ok (.if_icmp .ge 61, 3) := by decide +kernel
theorem dX3_pick_24 : decode cX3_pick 24 = .ok (.iload 5, 2) := by decide +kernel
theorem dX3_pick_26 : decode cX3_pick 26 = .ok (.iload 8, 2) := by decide +kernel
theorem dX3_pick_28 : decode cX3_pick 28 = .ok (.invokestatic 53, 3) := by decide +kernel
theorem dX3_pick_31 : decode cX3_pick 31 = .ok (.ifCond .eq 45, 3) := by decide +kernel
theorem dX3_pick_34 : decode cX3_pick 34 = .ok (.aload_n 0, 1) := by decide +kernel
theorem dX3_pick_35 : decode cX3_pick 35 = .ok (.getfield 15, 3) := by decide +kernel
theorem dX3_pick_38 : decode cX3_pick 38 = .ok (.iload 8, 2) := by decide +kernel
theorem dX3_pick_40 : decode cX3_pick 40 = .ok (.iaload, 1) := by decide +kernel
theorem dX3_pick_41 : decode cX3_pick 41 = .ok (.iload 4, 2) := by decide +kernel
theorem dX3_pick_43 : decode cX3_pick 43 = .ok (.if_icmp .le 6, 3) := by decide +kernel
theorem dX3_pick_46 : decode cX3_pick 46 = .ok (.goto 30, 3) := by decide +kernel
theorem dX3_pick_49 : decode cX3_pick 49 = .ok (.aload_n 0, 1) := by decide +kernel
theorem dX3_pick_50 : decode cX3_pick 50 = .ok (.iload 8, 2) := by decide +kernel
theorem dX3_pick_52 : decode cX3_pick 52 = .ok (.iload_n 1, 1) := by decide +kernel
theorem dX3_pick_53 : decode cX3_pick 53 = .ok (.iload_n 2, 1) := by decide +kernel
theorem dX3_pick_54 : decode cX3_pick 54 = .ok (.iload_n 3, 1) := by decide +kernel
theorem dX3_pick_55 : decode cX3_pick 55 = .ok (.ior, 1) := by decide +kernel
theorem dX3_pick_56 : decode cX3_pick 56 = .ok (.invokevirtual 72, 3) := by decide +kernel
theorem dX3_pick_59 : decode cX3_pick 59 = .ok (.istore 9, 2) := by decide +kernel
theorem dX3_pick_61 : decode cX3_pick 61 = .ok (.iload 9, 2) := by decide +kernel
theorem dX3_pick_63 : decode cX3_pick 63 = .ok (.iload 7, 2) := by decide +kernel
theorem dX3_pick_65 : decode cX3_pick 65 = .ok (.if_icmp .le 11, 3) := by decide +kernel
theorem dX3_pick_68 : decode cX3_pick 68 = .ok (.iload 8, 2) := by decide +kernel
theorem dX3_pick_70 : decode cX3_pick 70 = .ok (.istore 6, 2) := by decide +kernel
theorem dX3_pick_72 : decode cX3_pick 72 = .ok (.iload 9, 2) := by decide +kernel
theorem dX3_pick_74 : decode cX3_pick 74 = .ok (.istore 7, 2) := by decide +kernel
theorem dX3_pick_76 : decode cX3_pick 76 = .ok (.iinc 8 1, 3) := by decide +kernel
theorem dX3_pick_79 : decode cX3_pick 79 = .ok (.goto (-62), 3) := by decide +kernel
theorem dX3_pick_82 : decode cX3_pick 82 = .ok (.iload 6, 2) := by decide +kernel
theorem dX3_pick_84 : decode cX3_pick 84 = .ok (.ireturn, 1) := by decide +kernel
set_option maxRecDepth 20000 in
theorem ggX3_rankOf_J6_bitCount_0f7a4 : GoodIn wsX3_rankOf wsJ6_bitCount_0f7a4 := goodIn_r _ [6, 7, 8, 9] (by decide +kernel) (by decide +kernel)
set_option maxRecDepth 20000 in
theorem gX3_rankOf_J6_bitCount_0f7a4 : GoodIn wsX3_rankOf (va_wsS RX3 76 yJ6_bitCount_0f7a4 wsJ6_bitCount_0f7a4) := goodIn_app (goodIn_of _ (by decide +kernel)) ggX3_rankOf_J6_bitCount_0f7a4
theorem dX3_rankOf_0 : decode cX3_rankOf 0 = .ok (.iload_n 1, 1) := by decide +kernel
theorem dX3_rankOf_1 : decode cX3_rankOf 1 = .ok (.ifCond .lt 9, 3) := by decide +kernel
theorem dX3_rankOf_4 : decode cX3_rankOf 4 = .ok (.iload_n 1, 1) := by decide +kernel
theorem dX3_rankOf_5 : decode cX3_rankOf 5 = .ok (.bipush 10, 2) := by decide +kernel
theorem dX3_rankOf_7 : decode cX3_rankOf 7 = .ok (.if_icmp .lt 5, 3) := by decide +kernel
theorem dX3_rankOf_10 : decode cX3_rankOf 10 = .ok (.iconst (-1), 1) := by decide +kernel
theorem dX3_rankOf_11 : decode cX3_rankOf 11 = .ok (.ireturn, 1) := by decide +kernel
theorem dX3_rankOf_12 : decode cX3_rankOf 12 = .ok (.iload_n 2, 1) := by decide +kernel
theorem dX3_rankOf_13 : decode cX3_rankOf 13 = .ok (.lookupswitch 48 #[(1, 27), (2, 34)], 27) := by decide +kernel
theorem dX3_rankOf_40 : decode cX3_rankOf 40 = .ok (.aload_n 0, 1) := by decide +kernel
theorem dX3_rankOf_41 : decode cX3_rankOf 41 = .ok (.getfield 9, 3) := by decide +kernel
theorem dX3_rankOf_44 : decode cX3_rankOf 44 = .ok (.iload_n 1, 1) := by decide +kernel
theorem dX3_rankOf_45 : decode cX3_rankOf 45 = .ok (.iaload, 1) := by decide +kernel
theorem dX3_rankOf_46 : decode cX3_rankOf 46 = .ok (.ireturn, 1) := by decide +kernel
theorem dX3_rankOf_47 : decode cX3_rankOf 47 = .ok (.aload_n 0, 1) := by decide +kernel
theorem dX3_rankOf_48 : decode cX3_rankOf 48 = .ok (.getfield 18, 3) := by decide +kernel
theorem dX3_rankOf_51 : decode cX3_rankOf 51 = .ok (.iload_n 1, 1) := by decide +kernel
theorem dX3_rankOf_52 : decode cX3_rankOf 52 = .ok (.iaload, 1) := by decide +kernel
theorem dX3_rankOf_53 : decode cX3_rankOf 53 = .ok (.iload_n 3, 1) := by decide +kernel
theorem dX3_rankOf_54 : decode cX3_rankOf 54 = .ok (.iconst (-1), 1) := by decide +kernel
theorem dX3_rankOf_55 : decode cX3_rankOf 55 = .ok (.ixor, 1) := by decide +kernel
theorem dX3_rankOf_56 : decode cX3_rankOf 56 = .ok (.iand, 1) := by decide +kernel
theorem dX3_rankOf_57 : decode cX3_rankOf 57 = .ok (.invokestatic 76, 3) := by decide +kernel
theorem dX3_rankOf_60 : decode cX3_rankOf 60 = .ok (.ireturn, 1) := by decide +kernel
theorem dX3_rankOf_61 : decode cX3_rankOf 61 = .ok (.iconst 0, 1) := by decide +kernel
theorem dX3_rankOf_62 : decode cX3_rankOf 62 = .ok (.ireturn, 1) := by decide +kernel
set_option maxRecDepth 20000 in
theorem ggX4_init_J7_fill_53178 : GoodIn wsX4_init wsJ7_fill_53178 := goodIn_r _ [9] (by decide +kernel) (by decide +kernel)
set_option maxRecDepth 20000 in
theorem gX4_init_J7_fill_53178 : GoodIn wsX4_init (va_wsS RX4 15 yJ7_fill_53178 wsJ7_fill_53178) := goodIn_app (goodIn_of _ (by decide +kernel)) ggX4_init_J7_fill_53178
theorem dX4_init_0 : decode cX4_init 0 = .ok (.aload_n 0, 1) := by decide +kernel
theorem dX4_init_1 : decode cX4_init 1 = .ok (.invokespecial 3, 3) := by decide +kernel
theorem dX4_init_4 : decode cX4_init 4 = .ok (.aload_n 0, 1) := by decide +kernel
theorem dX4_init_5 : decode cX4_init 5 = .ok (.bipush 8, 2) := by decide +kernel
theorem dX4_init_7 : decode cX4_init 7 = .ok (.newarray .int, 2) := by decide +kernel
theorem dX4_init_9 : decode cX4_init 9 = .ok (.putfield 9, 3) := by decide +kernel
theorem dX4_init_12 : decode cX4_init 12 = .ok (.aload_n 0, 1) := by decide +kernel
theorem dX4_init_13 : decode cX4_init 13 = .ok (.getfield 9, 3) := by decide +kernel
theorem dX4_init_16 : decode cX4_init 16 = .ok (.iconst 1, 1) := by decide +kernel
theorem dX4_init_17 : decode cX4_init 17 = .ok (.invokestatic 15, 3) := by decide +kernel
theorem dX4_init_20 : decode cX4_init 20 = .ok (.return_, 1) := by decide +kernel
theorem dX4_copy_0 : decode cX4_copy 0 = .ok (.aload_n 1, 1) := by decide +kernel
theorem dX4_copy_1 : decode cX4_copy 1 = .ok (.getfield 9, 3) := by decide +kernel
theorem dX4_copy_4 : decode cX4_copy 4 = .ok (.iconst 0, 1) := by decide +kernel
theorem dX4_copy_5 : decode cX4_copy 5 = .ok (.aload_n 0, 1) := by decide +kernel
theorem dX4_copy_6 : decode cX4_copy 6 = .ok (.getfield 9, 3) := by decide +kernel
theorem dX4_copy_9 : decode cX4_copy 9 = .ok (.iconst 0, 1) := by decide +kernel
theorem dX4_copy_10 : decode cX4_copy 10 = .ok (.bipush 8, 2) := by decide +kernel
theorem dX4_copy_12 : decode cX4_copy 12 = .ok (.invokestatic 21, 3) := by decide +kernel
theorem dX4_copy_15 : decode cX4_copy 15 = .ok (.aload_n 0, 1) := by decide +kernel
theorem dX4_copy_16 : decode cX4_copy 16 = .ok (.aload_n 1, 1) := by decide +kernel
theorem dX4_copy_17 : decode cX4_copy 17 = .ok (.getfield 27, 3) := by decide +kernel
theorem dX4_copy_20 : decode cX4_copy 20 = .ok (.putfield 27, 3) := by decide +kernel
theorem dX4_copy_23 : decode cX4_copy 23 = .ok (.return_, 1) := by decide +kernel
theorem dX4_money_0 : decode cX4_money 0 = .ok (.iconst 0, 1) := by decide +kernel
theorem dX4_money_1 : decode cX4_money 1 = .ok (.iload_n 1, 1) := by decide +kernel
theorem dX4_money_2 : decode cX4_money 2 = .ok (.bipush 8, 2) := by decide +kernel
theorem dX4_money_4 : decode cX4_money 4 = .ok (.invokestatic 31, 3) := by decide +kernel
theorem dX4_money_7 : decode cX4_money 7 = .ok (.iconst 1, 1) := by decide +kernel
theorem dX4_money_8 : decode cX4_money 8 = .ok (.isub, 1) := by decide +kernel
theorem dX4_money_9 : decode cX4_money 9 = .ok (.invokestatic 37, 3) := by decide +kernel
theorem dX4_money_12 : decode cX4_money 12 = .ok (.istore_n 3, 1) := by decide +kernel
theorem dX4_money_13 : decode cX4_money 13 = .ok (.aload_n 0, 1) := by decide +kernel
theorem dX4_money_14 : decode cX4_money 14 = .ok (.getfield 9, 3) := by decide +kernel
theorem dX4_money_17 : decode cX4_money 17 = .ok (.iload_n 3, 1) := by decide +kernel
theorem dX4_money_18 : decode cX4_money 18 = .ok (.iaload, 1) := by decide +kernel
theorem dX4_money_19 : decode cX4_money 19 = .ok (.aload_n 0, 1) := by decide +kernel
theorem dX4_money_20 : decode cX4_money 20 = .ok (.getfield 27, 3) := by decide +kernel
theorem dX4_money_23 : decode cX4_money 23 = .ok (.iconst 1, 1) := by decide +kernel
theorem dX4_money_24 : decode cX4_money 24 = .ok (.if_icmp .ne 7, 3) := by decide +kernel
theorem dX4_money_27 : decode cX4_money 27 = .ok (.iload_n 2, 1) := by decide +kernel
theorem dX4_money_28 : decode cX4_money 28 = .ok (.goto 4, 3) := by decide +kernel
theorem dX4_money_31 : decode cX4_money 31 = .ok (.iconst 0, 1) := by decide +kernel
theorem dX4_money_32 : decode cX4_money 32 = .ok (.iadd, 1) := by decide +kernel
theorem dX4_money_33 : decode cX4_money 33 = .ok (.ireturn, 1) := by decide +kernel
set_option maxRecDepth 20000 in
theorem ggX5_init_X4_init : GoodIn wsX5_init wsX4_init := goodIn_r _ [13, 14, 2, 3, 8, 15, 16, 17, 18, 19, 20, 21] (by decide +kernel) (by decide +kernel)
set_option maxRecDepth 20000 in
theorem gX5_init_X4_init : GoodIn wsX5_init (wsX4_init) := ggX5_init_X4_init
theorem dX5_init_0 : decode cX5_init 0 = .ok (.aload_n 0, 1) := by decide +kernel
theorem dX5_init_1 : decode cX5_init 1 = .ok (.invokespecial 3, 3) := by decide +kernel
theorem dX5_init_4 : decode cX5_init 4 = .ok (.aload_n 0, 1) := by decide +kernel
theorem dX5_init_5 : decode cX5_init 5 = .ok (.new 9, 3) := by decide +kernel
theorem dX5_init_8 : decode cX5_init 8 = .ok (.dup, 1) := by decide +kernel
theorem dX5_init_9 : decode cX5_init 9 = .ok (.invokespecial 11, 3) := by decide +kernel
theorem dX5_init_12 : decode cX5_init 12 = .ok (.putfield 12, 3) := by decide +kernel
theorem dX5_init_15 : decode cX5_init 15 = .ok (.aload_n 0, 1) := by decide +kernel
theorem dX5_init_16 : decode cX5_init 16 = .ok (.bipush 8, 2) := by decide +kernel
theorem dX5_init_18 : decode cX5_init 18 = .ok (.newarray .int, 2) := by decide +kernel
theorem dX5_init_20 : decode cX5_init 20 = .ok (.putfield 18, 3) := by decide +kernel
theorem dX5_init_23 : decode cX5_init 23 = .ok (.aload_n 0, 1) := by decide +kernel
theorem dX5_init_24 : decode cX5_init 24 = .ok (.bipush 8, 2) := by decide +kernel
theorem dX5_init_26 : decode cX5_init 26 = .ok (.newarray .int, 2) := by decide +kernel
theorem dX5_init_28 : decode cX5_init 28 = .ok (.putfield 22, 3) := by decide +kernel
theorem dX5_init_31 : decode cX5_init 31 = .ok (.return_, 1) := by decide +kernel
set_option maxRecDepth 20000 in
theorem ggX5_chosen_X6_within : GoodIn wsX5_chosen wsX6_within := goodIn_r _ [4] (by decide +kernel) (by decide +kernel)
set_option maxRecDepth 20000 in
theorem gX5_chosen_X6_within_n25 : GoodIn wsX5_chosen (wsX6_within) := ggX5_chosen_X6_within
theorem dX5_chosen_0 : decode cX5_chosen 0 = .ok (.iload_n 1, 1) := by decide +kernel
theorem dX5_chosen_1 : decode cX5_chosen 1 = .ok (.iconst 1, 1) := by decide +kernel
theorem dX5_chosen_2 : decode cX5_chosen 2 = .ok (.bipush 8, 2) := by decide +kernel
theorem dX5_chosen_4 : decode cX5_chosen 4 = .ok (.invokestatic 25, 3) := by decide +kernel
theorem dX5_chosen_7 : decode cX5_chosen 7 = .ok (.ifCond .eq 14, 3) := by decide +kernel
theorem dX5_chosen_10 : decode cX5_chosen 10 = .ok (.aload_n 0, 1) := by decide +kernel
theorem dX5_chosen_11 : decode cX5_chosen 11 = .ok (.getfield 22, 3) := by decide +kernel
theorem dX5_chosen_14 : decode cX5_chosen 14 = .ok (.iload_n 1, 1) := by decide +kernel
theorem dX5_chosen_15 : decode cX5_chosen 15 = .ok (.iconst 1, 1) := by decide +kernel
theorem dX5_chosen_16 : decode cX5_chosen 16 = .ok (.isub, 1) := by decide +kernel
theorem dX5_chosen_17 : decode cX5_chosen 17 = .ok (.iaload, 1) := by decide +kernel
theorem dX5_chosen_18 : decode cX5_chosen 18 = .ok (.goto 4, 3) := by decide +kernel
theorem dX5_chosen_21 : decode cX5_chosen 21 = .ok (.iconst 0, 1) := by decide +kernel
theorem dX5_chosen_22 : decode cX5_chosen 22 = .ok (.ireturn, 1) := by decide +kernel
set_option maxRecDepth 20000 in
theorem ggX5_run_X4_money : GoodIn wsX5_run wsX4_money := goodIn_r _ [10, 11, 12, 13, 14, 15, 16, 17, 18, 19, 80, 81] (by decide +kernel) (by decide +kernel)
set_option maxRecDepth 20000 in
theorem gX5_run_X4_money : GoodIn wsX5_run (wsV RX5 43 RX4 yX4_money wsX4_money) := goodIn_app (goodIn_of _ (by decide +kernel)) ggX5_run_X4_money
set_option maxRecDepth 20000 in
theorem ggX5_run_X5_seek : GoodIn wsX5_run wsX5_seek := goodIn_r _ [24, 3, 25, 26, 27, 28, 29, 30, 31, 32, 33, 34, 35, 36, 37, 38, 39, 40, 41, 23, 42, 43, 44, 45, 46, 47, 48, 2, 1, 49, 5, 50, 51, 52, 53, 54, 55, 56, 57, 58, 59, 6, 7, 8, 9, 10, 11, 12, 13, 14, 15, 16, 17, 18, 19, 20, 21, 22, 60, 61, 62, 63, 4, 64, 65, 66, 67, 68, 69, 70, 71, 72, 73, 74, 75, 76, 77, 78, 79, 82, 83, 84, 85, 86, 87, 80, 81] (by decide +kernel) (by decide +kernel)
set_option maxRecDepth 20000 in
theorem gX5_run_X5_seek : GoodIn wsX5_run (wsV RX5 47 RX5 yX5_seek wsX5_seek) := goodIn_app (goodIn_of _ (by decide +kernel)) ggX5_run_X5_seek
theorem dX5_run_0 : decode cX5_run 0 = .ok (.aload_n 0, 1) := by decide +kernel
theorem dX5_run_1 : decode cX5_run 1 = .ok (.iload_n 2, 1) := by decide +kernel
theorem dX5_run_2 : decode cX5_run 2 = .ok (.putfield 29, 3) := by decide +kernel
theorem dX5_run_5 : decode cX5_run 5 = .ok (.aload_n 0, 1) := by decide +kernel
theorem dX5_run_6 : decode cX5_run 6 = .ok (.iconst 0, 1) := by decide +kernel
theorem dX5_run_7 : decode cX5_run 7 = .ok (.putfield 33, 3) := by decide +kernel
theorem dX5_run_10 : decode cX5_run 10 = .ok (.aload_n 0, 1) := by decide +kernel
theorem dX5_run_11 : decode cX5_run 11 = .ok (.iconst 0, 1) := by decide +kernel
theorem dX5_run_12 : decode cX5_run 12 = .ok (.putfield 36, 3) := by decide +kernel
theorem dX5_run_15 : decode cX5_run 15 = .ok (.aload_n 0, 1) := by decide +kernel
theorem dX5_run_16 : decode cX5_run 16 = .ok (.iconst (-1), 1) := by decide +kernel
theorem dX5_run_17 : decode cX5_run 17 = .ok (.putfield 40, 3) := by decide +kernel
theorem dX5_run_20 : decode cX5_run 20 = .ok (.aload_n 0, 1) := by decide +kernel
theorem dX5_run_21 : decode cX5_run 21 = .ok (.aload_n 1, 1) := by decide +kernel
theorem dX5_run_22 : decode cX5_run 22 = .ok (.iconst 1, 1) := by decide +kernel
theorem dX5_run_23 : decode cX5_run 23 = .ok (.iload_n 3, 1) := by decide +kernel
theorem dX5_run_24 : decode cX5_run 24 = .ok (.iconst 0, 1) := by decide +kernel
theorem dX5_run_25 : decode cX5_run 25 = .ok (.aload_n 0, 1) := by decide +kernel
theorem dX5_run_26 : decode cX5_run 26 = .ok (.getfield 12, 3) := by decide +kernel
theorem dX5_run_29 : decode cX5_run 29 = .ok (.iconst 1, 1) := by decide +kernel
theorem dX5_run_30 : decode cX5_run 30 = .ok (.iconst 0, 1) := by decide +kernel
theorem dX5_run_31 : decode cX5_run 31 = .ok (.invokevirtual 43, 3) := by decide +kernel
theorem dX5_run_34 : decode cX5_run 34 = .ok (.invokevirtual 47, 3) := by decide +kernel
theorem dX5_run_37 : decode cX5_run 37 = .ok (.return_, 1) := by decide +kernel
set_option maxRecDepth 20000 in
theorem ggX5_seek_X3_all : GoodIn wsX5_seek wsX3_all := goodIn_r _ [6, 7, 79, 80, 81, 82, 83, 84] (by decide +kernel) (by decide +kernel)
set_option maxRecDepth 20000 in
theorem gX5_seek_X3_all : GoodIn wsX5_seek (wsV RX5 51 RX3 yX3_all wsX3_all) := goodIn_app (goodIn_of _ (by decide +kernel)) ggX5_seek_X3_all
set_option maxRecDepth 20000 in
theorem ggX5_seek_X3_priceOf : GoodIn wsX5_seek wsX3_priceOf := goodIn_r _ [11, 12, 13, 14, 5, 15, 79, 80, 81, 82, 83, 84] (by decide +kernel) (by decide +kernel)
set_option maxRecDepth 20000 in
theorem gX5_seek_X3_priceOf : GoodIn wsX5_seek (wsV RX5 57 RX3 yX3_priceOf wsX3_priceOf) := goodIn_app (goodIn_of _ (by decide +kernel)) ggX5_seek_X3_priceOf
set_option maxRecDepth 20000 in
theorem ggX5_seek_X5_look : GoodIn wsX5_seek wsX5_look := goodIn_r _ [26, 27, 28, 1, 29, 30, 31, 32, 33, 34, 35, 36, 5, 37, 38, 39, 40, 41, 42, 43, 44, 45, 46, 47, 48, 49, 50, 51, 52, 53, 54, 55, 56, 57, 19, 58, 59, 60, 61, 62, 63, 64, 65, 66, 67, 68, 69, 70, 3, 4, 6, 7, 13, 14, 15, 0, 2, 8, 9, 10, 11, 12, 16, 17, 18, 20, 21, 22, 23, 24, 25, 71, 72, 73, 74, 75, 76, 77, 78, 79, 80, 81, 82, 83, 84, 85, 86] (by decide +kernel) (by decide +kernel)
set_option maxRecDepth 20000 in
theorem gX5_seek_X5_look : GoodIn wsX5_seek (wsV RX5 61 RX5 yX5_look wsX5_look) := goodIn_app (goodIn_of _ (by decide +kernel)) ggX5_seek_X5_look
set_option maxRecDepth 20000 in
theorem ggX5_seek_X5_lastAbove : GoodIn wsX5_seek wsX5_lastAbove := goodIn_r _ [22] (by decide +kernel) (by decide +kernel)
set_option maxRecDepth 20000 in
theorem gX5_seek_X5_lastAbove : GoodIn wsX5_seek (va_wsS RX5 65 yX5_lastAbove wsX5_lastAbove) := goodIn_app (goodIn_of _ (by decide +kernel)) ggX5_seek_X5_lastAbove
set_option maxRecDepth 20000 in
theorem ggX5_seek_X5_nextWithin : GoodIn wsX5_seek wsX5_nextWithin := goodIn_r _ [25] (by decide +kernel) (by decide +kernel)
set_option maxRecDepth 20000 in
theorem gX5_seek_X5_nextWithin : GoodIn wsX5_seek (va_wsS RX5 68 yX5_nextWithin wsX5_nextWithin) := goodIn_app (goodIn_of _ (by decide +kernel)) ggX5_seek_X5_nextWithin
theorem dX5_seek_0 : decode cX5_seek 0 = .ok (.aload_n 1, 1) := by decide +kernel
theorem dX5_seek_1 : decode cX5_seek 1 = .ok (.invokevirtual 51, 3) := by decide +kernel
theorem dX5_seek_4 : decode cX5_seek 4 = .ok (.iload_n 3, 1) := by decide +kernel
theorem dX5_seek_5 : decode cX5_seek 5 = .ok (.iconst (-1), 1) := by decide +kernel
theorem dX5_seek_6 : decode cX5_seek 6 = .ok (.ixor, 1) := by decide +kernel
theorem dX5_seek_7 : decode cX5_seek 7 = .ok (.iand, 1) := by decide +kernel
theorem dX5_seek_8 : decode cX5_seek 8 = .ok (.iload 4, 2) := by decide +kernel
theorem dX5_seek_10 : decode cX5_seek 10 = .ok (.iconst (-1), 1) := by decide +kernel
theorem dX5_seek_11 : decode cX5_seek 11 = .ok (.ixor, 1) := by decide +kernel
theorem dX5_seek_12 : decode cX5_seek 12 = .ok (.iand, 1) := by decide +kernel
theorem dX5_seek_13 : decode cX5_seek 13 = .ok (.istore 6, 2) := by decide +kernel
theorem dX5_seek_15 : decode cX5_seek 15 = .ok (.iconst 0, 1) := by decide +kernel
theorem dX5_seek_16 : decode cX5_seek 16 = .ok (.istore 7, 2) := by decide +kernel
theorem dX5_seek_18 : decode cX5_seek 18 = .ok (.iconst 0, 1) := by decide +kernel
theorem dX5_seek_19 : decode cX5_seek 19 = .ok (.istore 8, 2) := by decide +kernel
theorem dX5_seek_21 : decode cX5_seek 21 = .ok (.iload 8, 2) := by decide +kernel
theorem dX5_seek_23 : decode cX5_seek 23 = .ok (.sipush 1023, 3) := by decide +kernel
theorem dX5_seek_26 : decode cX5_seek 26 = .ok (.if_icmp .gt 73, 3) := by decide +kernel
theorem dX5_seek_29 : decode cX5_seek 29 = .ok (.aload_n 0, 1) := by decide +kernel
theorem dX5_seek_30 : decode cX5_seek 30 = .ok (.getfield 36, 3) := by decide +kernel
theorem dX5_seek_33 : decode cX5_seek 33 = .ok (.ifCond .ne 66, 3) := by decide +kernel
theorem dX5_seek_36 : decode cX5_seek 36 = .ok (.iload 5, 2) := by decide +kernel
theorem dX5_seek_38 : decode cX5_seek 38 = .ok (.aload_n 1, 1) := by decide +kernel
theorem dX5_seek_39 : decode cX5_seek 39 = .ok (.iload 7, 2) := by decide +kernel
theorem dX5_seek_41 : decode cX5_seek 41 = .ok (.invokevirtual 57, 3) := by decide +kernel
theorem dX5_seek_44 : decode cX5_seek 44 = .ok (.isub, 1) := by decide +kernel
theorem dX5_seek_45 : decode cX5_seek 45 = .ok (.istore 9, 2) := by decide +kernel
theorem dX5_seek_47 : decode cX5_seek 47 = .ok (.iload 9, 2) := by decide +kernel
theorem dX5_seek_49 : decode cX5_seek 49 = .ok (.ifCond .lt 16, 3) := by decide +kernel
theorem dX5_seek_52 : decode cX5_seek 52 = .ok (.aload_n 0, 1) := by decide +kernel
theorem dX5_seek_53 : decode cX5_seek 53 = .ok (.aload_n 1, 1) := by decide +kernel
theorem dX5_seek_54 : decode cX5_seek 54 = .ok (.iload_n 2, 1) := by decide +kernel
theorem dX5_seek_55 : decode cX5_seek 55 = .ok (.iload_n 3, 1) := by decide +kernel
theorem dX5_seek_56 : decode cX5_seek 56 = .ok (.iload 4, 2) := by decide +kernel
theorem dX5_seek_58 : decode cX5_seek 58 = .ok (.iload 7, 2) := by decide +kernel
theorem dX5_seek_60 : decode cX5_seek 60 = .ok (.iload 9, 2) := by decide +kernel
theorem dX5_seek_62 : decode cX5_seek 62 = .ok (.invokevirtual 61, 3) := by decide +kernel
theorem dX5_seek_65 : decode cX5_seek 65 = .ok (.iload 6, 2) := by decide +kernel
theorem dX5_seek_67 : decode cX5_seek 67 = .ok (.iload 9, 2) := by decide +kernel
theorem dX5_seek_69 : decode cX5_seek 69 = .ok (.ifCond .lt 8, 3) := by decide +kernel
theorem dX5_seek_72 : decode cX5_seek 72 = .ok (.iload 7, 2) := by decide +kernel
theorem dX5_seek_74 : decode cX5_seek 74 = .ok (.goto 8, 3) := by decide +kernel
theorem dX5_seek_77 : decode cX5_seek 77 = .ok (.iload 7, 2) := by decide +kernel
theorem dX5_seek_79 : decode cX5_seek 79 = .ok (.invokestatic 65, 3) := by decide +kernel
theorem dX5_seek_82 : decode cX5_seek 82 = .ok (.invokestatic 68, 3) := by decide +kernel
theorem dX5_seek_85 : decode cX5_seek 85 = .ok (.istore 7, 2) := by decide +kernel
theorem dX5_seek_87 : decode cX5_seek 87 = .ok (.iload 7, 2) := by decide +kernel
theorem dX5_seek_89 : decode cX5_seek 89 = .ok (.ifCond .ne 4, 3) := by decide +kernel
theorem dX5_seek_92 : decode cX5_seek 92 = .ok (.return_, 1) := by decide +kernel
theorem dX5_seek_93 : decode cX5_seek 93 = .ok (.iinc 8 1, 3) := by decide +kernel
theorem dX5_seek_96 : decode cX5_seek 96 = .ok (.goto (-75), 3) := by decide +kernel
theorem dX5_seek_99 : decode cX5_seek 99 = .ok (.return_, 1) := by decide +kernel
theorem dX5_nextWithin_0 : decode cX5_nextWithin 0 = .ok (.iload_n 1, 1) := by decide +kernel
theorem dX5_nextWithin_1 : decode cX5_nextWithin 1 = .ok (.iload_n 0, 1) := by decide +kernel
theorem dX5_nextWithin_2 : decode cX5_nextWithin 2 = .ok (.iconst (-1), 1) := by decide +kernel
theorem dX5_nextWithin_3 : decode cX5_nextWithin 3 = .ok (.ixor, 1) := by decide +kernel
theorem dX5_nextWithin_4 : decode cX5_nextWithin 4 = .ok (.ior, 1) := by decide +kernel
theorem dX5_nextWithin_5 : decode cX5_nextWithin 5 = .ok (.iconst 1, 1) := by decide +kernel
theorem dX5_nextWithin_6 : decode cX5_nextWithin 6 = .ok (.iadd, 1) := by decide +kernel
theorem dX5_nextWithin_7 : decode cX5_nextWithin 7 = .ok (.iload_n 0, 1) := by decide +kernel
theorem dX5_nextWithin_8 : decode cX5_nextWithin 8 = .ok (.iand, 1) := by decide +kernel
theorem dX5_nextWithin_9 : decode cX5_nextWithin 9 = .ok (.ireturn, 1) := by decide +kernel
theorem dX5_lastAbove_0 : decode cX5_lastAbove 0 = .ok (.iload_n 0, 1) := by decide +kernel
theorem dX5_lastAbove_1 : decode cX5_lastAbove 1 = .ok (.iload_n 0, 1) := by decide +kernel
theorem dX5_lastAbove_2 : decode cX5_lastAbove 2 = .ok (.iload_n 0, 1) := by decide +kernel
theorem dX5_lastAbove_3 : decode cX5_lastAbove 3 = .ok (.ineg, 1) := by decide +kernel
theorem dX5_lastAbove_4 : decode cX5_lastAbove 4 = .ok (.iand, 1) := by decide +kernel
theorem dX5_lastAbove_5 : decode cX5_lastAbove 5 = .ok (.iconst 1, 1) := by decide +kernel
theorem dX5_lastAbove_6 : decode cX5_lastAbove 6 = .ok (.isub, 1) := by decide +kernel
theorem dX5_lastAbove_7 : decode cX5_lastAbove 7 = .ok (.ior, 1) := by decide +kernel
theorem dX5_lastAbove_8 : decode cX5_lastAbove 8 = .ok (.ireturn, 1) := by decide +kernel
set_option maxRecDepth 20000 in
theorem ggX5_look_X6_within : GoodIn wsX5_look wsX6_within := goodIn_r _ [8] (by decide +kernel) (by decide +kernel)
set_option maxRecDepth 20000 in
theorem gX5_look_X6_within_n25 : GoodIn wsX5_look (wsX6_within) := ggX5_look_X6_within
set_option maxRecDepth 20000 in
theorem ggX5_look_X3_threatened : GoodIn wsX5_look wsX3_threatened := goodIn_r _ [13, 14, 15, 7, 16, 79, 80, 81, 82, 83, 84] (by decide +kernel) (by decide +kernel)
set_option maxRecDepth 20000 in
theorem gX5_look_X3_threatened : GoodIn wsX5_look (wsV RX5 71 RX3 yX3_threatened wsX3_threatened) := goodIn_app (goodIn_of _ (by decide +kernel)) ggX5_look_X3_threatened
set_option maxRecDepth 20000 in
theorem ggX5_look_X4_money : GoodIn wsX5_look wsX4_money := goodIn_r _ [21, 22, 23, 24, 25, 26, 27, 28, 29, 30, 85, 86] (by decide +kernel) (by decide +kernel)
set_option maxRecDepth 20000 in
theorem gX5_look_X4_money : GoodIn wsX5_look (wsV RX5 43 RX4 yX4_money wsX4_money) := goodIn_app (goodIn_of _ (by decide +kernel)) ggX5_look_X4_money
set_option maxRecDepth 20000 in
theorem ggX5_look_X5_seek : GoodIn wsX5_look wsX5_seek := goodIn_r _ [55, 3, 56, 48, 49, 12, 50, 51, 57, 58, 59, 60, 61, 52, 53, 54, 62, 63, 64, 34, 65, 66, 67, 68, 69, 70, 0, 1, 2, 4, 5, 6, 7, 8, 9, 10, 11, 13, 14, 15, 16, 17, 18, 19, 20, 21, 22, 23, 24, 25, 26, 27, 28, 29, 30, 31, 32, 33, 35, 36, 37, 38, 39, 40, 41, 42, 43, 44, 45, 46, 47, 71, 72, 73, 74, 75, 76, 77, 78, 79, 80, 81, 82, 83, 84, 85, 86] (by decide +kernel) (by decide +kernel)
set_option maxRecDepth 20000 in
theorem gX5_look_X5_seek : GoodIn wsX5_look (wsV RX5 47 RX5 yX5_seek wsX5_seek) := goodIn_app (goodIn_of _ (by decide +kernel)) ggX5_look_X5_seek
set_option maxRecDepth 20000 in
theorem ggX5_look_X5_judge : GoodIn wsX5_look wsX5_judge := goodIn_r _ [38, 39, 40, 41, 4, 9, 10, 11, 12, 13, 14, 15, 7, 16, 42, 43, 44, 45, 46, 47, 48, 49, 50, 51, 52, 53, 54, 71, 72, 73, 74, 75, 76, 77, 78, 79, 80, 81, 82, 83, 84] (by decide +kernel) (by decide +kernel)
set_option maxRecDepth 20000 in
theorem gX5_look_X5_judge : GoodIn wsX5_look (wsV RX5 74 RX5 yX5_judge wsX5_judge) := goodIn_app (goodIn_of _ (by decide +kernel)) ggX5_look_X5_judge
theorem dX5_look_0 : decode cX5_look 0 = .ok (.aload_n 0, 1) := by decide +kernel
theorem dX5_look_1 : decode cX5_look 1 = .ok (.getfield 33, 3) := by decide +kernel
theorem dX5_look_4 : decode cX5_look 4 = .ok (.aload_n 0, 1) := by decide +kernel
theorem dX5_look_5 : decode cX5_look 5 = .ok (.getfield 29, 3) := by decide +kernel
theorem dX5_look_8 : decode cX5_look 8 = .ok (.if_icmp .lt 9, 3) := by decide +kernel
theorem dX5_look_11 : decode cX5_look 11 = .ok (.aload_n 0, 1) := by decide +kernel
theorem dX5_look_12 : decode cX5_look 12 = .ok (.iconst 1, 1) := by decide +kernel
theorem dX5_look_13 : decode cX5_look 13 = .ok (.putfield 36, 3) := by decide +kernel
theorem dX5_look_16 : decode cX5_look 16 = .ok (.return_, 1) := by decide +kernel
theorem dX5_look_17 : decode cX5_look 17 = .ok (.aload_n 0, 1) := by decide +kernel
theorem dX5_look_18 : decode cX5_look 18 = .ok (.dup, 1) := by decide +kernel
theorem dX5_look_19 : decode cX5_look 19 = .ok (.getfield 33, 3) := by decide +kernel
theorem dX5_look_22 : decode cX5_look 22 = .ok (.iconst 1, 1) := by decide +kernel
theorem dX5_look_23 : decode cX5_look 23 = .ok (.iadd, 1) := by decide +kernel
theorem dX5_look_24 : decode cX5_look 24 = .ok (.putfield 33, 3) := by decide +kernel
theorem dX5_look_27 : decode cX5_look 27 = .ok (.iload_n 2, 1) := by decide +kernel
theorem dX5_look_28 : decode cX5_look 28 = .ok (.iconst 1, 1) := by decide +kernel
theorem dX5_look_29 : decode cX5_look 29 = .ok (.bipush 8, 2) := by decide +kernel
theorem dX5_look_31 : decode cX5_look 31 = .ok (.invokestatic 25, 3) := by decide +kernel
theorem dX5_look_34 : decode cX5_look 34 = .ok (.ifCond .ne 4, 3) := by decide +kernel
theorem dX5_look_37 : decode cX5_look 37 = .ok (.return_, 1) := by decide +kernel
theorem dX5_look_38 : decode cX5_look 38 = .ok (.aload_n 0, 1) := by decide +kernel
theorem dX5_look_39 : decode cX5_look 39 = .ok (.getfield 18, 3) := by decide +kernel
theorem dX5_look_42 : decode cX5_look 42 = .ok (.iload_n 2, 1) := by decide +kernel
theorem dX5_look_43 : decode cX5_look 43 = .ok (.iconst 1, 1) := by decide +kernel
theorem dX5_look_44 : decode cX5_look 44 = .ok (.isub, 1) := by decide +kernel
theorem dX5_look_45 : decode cX5_look 45 = .ok (.iload 5, 2) := by decide +kernel
theorem dX5_look_47 : decode cX5_look 47 = .ok (.iastore, 1) := by decide +kernel
theorem dX5_look_48 : decode cX5_look 48 = .ok (.iload 4, 2) := by decide +kernel
theorem dX5_look_50 : decode cX5_look 50 = .ok (.iload 5, 2) := by decide +kernel
theorem dX5_look_52 : decode cX5_look 52 = .ok (.ior, 1) := by decide +kernel
theorem dX5_look_53 : decode cX5_look 53 = .ok (.istore 7, 2) := by decide +kernel
theorem dX5_look_55 : decode cX5_look 55 = .ok (.aload_n 1, 1) := by decide +kernel
theorem dX5_look_56 : decode cX5_look 56 = .ok (.iload_n 3, 1) := by decide +kernel
theorem dX5_look_57 : decode cX5_look 57 = .ok (.iload 7, 2) := by decide +kernel
theorem dX5_look_59 : decode cX5_look 59 = .ok (.invokevirtual 71, 3) := by decide +kernel
theorem dX5_look_62 : decode cX5_look 62 = .ok (.istore 8, 2) := by decide +kernel
theorem dX5_look_64 : decode cX5_look 64 = .ok (.iload 8, 2) := by decide +kernel
theorem dX5_look_66 : decode cX5_look 66 = .ok (.ifCond .eq 38, 3) := by decide +kernel
theorem dX5_look_69 : decode cX5_look 69 = .ok (.iload_n 2, 1) := by decide +kernel
theorem dX5_look_70 : decode cX5_look 70 = .ok (.bipush 8, 2) := by decide +kernel
theorem dX5_look_72 : decode cX5_look 72 = .ok (.if_icmp .ge 32, 3) := by decide +kernel
theorem dX5_look_75 : decode cX5_look 75 = .ok (.aload_n 0, 1) := by decide +kernel
theorem dX5_look_76 : decode cX5_look 76 = .ok (.aload_n 1, 1) := by decide +kernel
theorem dX5_look_77 : decode cX5_look 77 = .ok (.iload_n 2, 1) := by decide +kernel
theorem dX5_look_78 : decode cX5_look 78 = .ok (.iconst 1, 1) := by decide +kernel
theorem dX5_look_79 : decode cX5_look 79 = .ok (.iadd, 1) := by decide +kernel
theorem dX5_look_80 : decode cX5_look 80 = .ok (.iload_n 3, 1) := by decide +kernel
theorem dX5_look_81 : decode cX5_look 81 = .ok (.iload 8, 2) := by decide +kernel
theorem dX5_look_83 : decode cX5_look 83 = .ok (.ior, 1) := by decide +kernel
theorem dX5_look_84 : decode cX5_look 84 = .ok (.iload 7, 2) := by decide +kernel
theorem dX5_look_86 : decode cX5_look 86 = .ok (.aload_n 0, 1) := by decide +kernel
theorem dX5_look_87 : decode cX5_look 87 = .ok (.getfield 12, 3) := by decide +kernel
theorem dX5_look_90 : decode cX5_look 90 = .ok (.iload_n 2, 1) := by decide +kernel
theorem dX5_look_91 : decode cX5_look 91 = .ok (.iconst 1, 1) := by decide +kernel
theorem dX5_look_92 : decode cX5_look 92 = .ok (.iadd, 1) := by decide +kernel
theorem dX5_look_93 : decode cX5_look 93 = .ok (.iload 6, 2) := by decide +kernel
theorem dX5_look_95 : decode cX5_look 95 = .ok (.invokevirtual 43, 3) := by decide +kernel
theorem dX5_look_98 : decode cX5_look 98 = .ok (.invokevirtual 47, 3) := by decide +kernel
theorem dX5_look_101 : decode cX5_look 101 = .ok (.goto 12, 3) := by decide +kernel
theorem dX5_look_104 : decode cX5_look 104 = .ok (.aload_n 0, 1) := by decide +kernel
theorem dX5_look_105 : decode cX5_look 105 = .ok (.aload_n 1, 1) := by decide +kernel
theorem dX5_look_106 : decode cX5_look 106 = .ok (.iload_n 2, 1) := by decide +kernel
theorem dX5_look_107 : decode cX5_look 107 = .ok (.iload_n 3, 1) := by decide +kernel
theorem dX5_look_108 : decode cX5_look 108 = .ok (.iload 7, 2) := by decide +kernel
theorem dX5_look_110 : decode cX5_look 110 = .ok (.invokevirtual 74, 3) := by decide +kernel
theorem dX5_look_113 : decode cX5_look 113 = .ok (.return_, 1) := by decide +kernel
set_option maxRecDepth 20000 in
theorem ggX5_judge_X3_threatened : GoodIn wsX5_judge wsX3_threatened := goodIn_r _ [9, 10, 11, 12, 13, 35, 36, 37, 38, 39, 40] (by decide +kernel) (by decide +kernel)
set_option maxRecDepth 20000 in
theorem gX5_judge_X3_threatened : GoodIn wsX5_judge (wsV RX5 71 RX3 yX3_threatened wsX3_threatened) := goodIn_app (goodIn_of _ (by decide +kernel)) ggX5_judge_X3_threatened
set_option maxRecDepth 20000 in
theorem ggX5_judge_X3_savedFrom : GoodIn wsX5_judge wsX3_savedFrom := goodIn_r _ [17, 18, 19, 20, 21, 8, 22, 23, 24, 25, 26, 35, 36, 37, 38, 39, 40] (by decide +kernel) (by decide +kernel)
set_option maxRecDepth 20000 in
theorem gX5_judge_X3_savedFrom : GoodIn wsX5_judge (wsV RX5 78 RX3 yX3_savedFrom wsX3_savedFrom) := goodIn_app (goodIn_of _ (by decide +kernel)) ggX5_judge_X3_savedFrom
theorem dX5_judge_0 : decode cX5_judge 0 = .ok (.iload_n 2, 1) := by decide +kernel
theorem dX5_judge_1 : decode cX5_judge 1 = .ok (.istore 5, 2) := by decide +kernel
theorem dX5_judge_3 : decode cX5_judge 3 = .ok (.iload_n 3, 1) := by decide +kernel
theorem dX5_judge_4 : decode cX5_judge 4 = .ok (.istore 6, 2) := by decide +kernel
theorem dX5_judge_6 : decode cX5_judge 6 = .ok (.aload_n 1, 1) := by decide +kernel
theorem dX5_judge_7 : decode cX5_judge 7 = .ok (.iload 6, 2) := by decide +kernel
theorem dX5_judge_9 : decode cX5_judge 9 = .ok (.iload 4, 2) := by decide +kernel
theorem dX5_judge_11 : decode cX5_judge 11 = .ok (.invokevirtual 71, 3) := by decide +kernel
theorem dX5_judge_14 : decode cX5_judge 14 = .ok (.istore 7, 2) := by decide +kernel
theorem dX5_judge_16 : decode cX5_judge 16 = .ok (.iload 5, 2) := by decide +kernel
theorem dX5_judge_18 : decode cX5_judge 18 = .ok (.bipush 20, 2) := by decide +kernel
theorem dX5_judge_20 : decode cX5_judge 20 = .ok (.if_icmp .ge 31, 3) := by decide +kernel
theorem dX5_judge_23 : decode cX5_judge 23 = .ok (.iload 7, 2) := by decide +kernel
theorem dX5_judge_25 : decode cX5_judge 25 = .ok (.ifCond .eq 26, 3) := by decide +kernel
theorem dX5_judge_28 : decode cX5_judge 28 = .ok (.iload 6, 2) := by decide +kernel
theorem dX5_judge_30 : decode cX5_judge 30 = .ok (.iload 7, 2) := by decide +kernel
theorem dX5_judge_32 : decode cX5_judge 32 = .ok (.ior, 1) := by decide +kernel
theorem dX5_judge_33 : decode cX5_judge 33 = .ok (.istore 6, 2) := by decide +kernel
theorem dX5_judge_35 : decode cX5_judge 35 = .ok (.aload_n 1, 1) := by decide +kernel
theorem dX5_judge_36 : decode cX5_judge 36 = .ok (.iload 6, 2) := by decide +kernel
theorem dX5_judge_38 : decode cX5_judge 38 = .ok (.iload 4, 2) := by decide +kernel
theorem dX5_judge_40 : decode cX5_judge 40 = .ok (.invokevirtual 71, 3) := by decide +kernel
theorem dX5_judge_43 : decode cX5_judge 43 = .ok (.istore 7, 2) := by decide +kernel
theorem dX5_judge_45 : decode cX5_judge 45 = .ok (.iinc 5 1, 3) := by decide +kernel
theorem dX5_judge_48 : decode cX5_judge 48 = .ok (.goto (-32), 3) := by decide +kernel
theorem dX5_judge_51 : decode cX5_judge 51 = .ok (.aload_n 1, 1) := by decide +kernel
theorem dX5_judge_52 : decode cX5_judge 52 = .ok (.iload 6, 2) := by decide +kernel
theorem dX5_judge_54 : decode cX5_judge 54 = .ok (.invokevirtual 78, 3) := by decide +kernel
theorem dX5_judge_57 : decode cX5_judge 57 = .ok (.istore 8, 2) := by decide +kernel
theorem dX5_judge_59 : decode cX5_judge 59 = .ok (.iload 8, 2) := by decide +kernel
theorem dX5_judge_61 : decode cX5_judge 61 = .ok (.aload_n 0, 1) := by decide +kernel
theorem dX5_judge_62 : decode cX5_judge 62 = .ok (.getfield 40, 3) := by decide +kernel
theorem dX5_judge_65 : decode cX5_judge 65 = .ok (.if_icmp .gt 4, 3) := by decide +kernel
theorem dX5_judge_68 : decode cX5_judge 68 = .ok (.return_, 1) := by decide +kernel
theorem dX5_judge_69 : decode cX5_judge 69 = .ok (.aload_n 0, 1) := by decide +kernel
theorem dX5_judge_70 : decode cX5_judge 70 = .ok (.iload 8, 2) := by decide +kernel
theorem dX5_judge_72 : decode cX5_judge 72 = .ok (.putfield 40, 3) := by decide +kernel
theorem dX5_judge_75 : decode cX5_judge 75 = .ok (.aload_n 0, 1) := by decide +kernel
theorem dX5_judge_76 : decode cX5_judge 76 = .ok (.iload 5, 2) := by decide +kernel
theorem dX5_judge_78 : decode cX5_judge 78 = .ok (.putfield 81, 3) := by decide +kernel
theorem dX5_judge_81 : decode cX5_judge 81 = .ok (.iconst 0, 1) := by decide +kernel
theorem dX5_judge_82 : decode cX5_judge 82 = .ok (.istore 9, 2) := by decide +kernel
theorem dX5_judge_84 : decode cX5_judge 84 = .ok (.iload 9, 2) := by decide +kernel
theorem dX5_judge_86 : decode cX5_judge 86 = .ok (.bipush 8, 2) := by decide +kernel
theorem dX5_judge_88 : decode cX5_judge 88 = .ok (.if_icmp .ge 33, 3) := by decide +kernel
theorem dX5_judge_91 : decode cX5_judge 91 = .ok (.aload_n 0, 1) := by decide +kernel
theorem dX5_judge_92 : decode cX5_judge 92 = .ok (.getfield 22, 3) := by decide +kernel
theorem dX5_judge_95 : decode cX5_judge 95 = .ok (.iload 9, 2) := by decide +kernel
theorem dX5_judge_97 : decode cX5_judge 97 = .ok (.iload 9, 2) := by decide +kernel
theorem dX5_judge_99 : decode cX5_judge 99 = .ok (.iload_n 2, 1) := by decide +kernel
theorem dX5_judge_100 : decode cX5_judge 100 = .ok (.if_icmp .ge 13, 3) := by decide +kernel
theorem dX5_judge_103 : decode cX5_judge 103 = .ok (.aload_n 0, 1) := by decide +kernel
theorem dX5_judge_104 : decode cX5_judge 104 = .ok (.getfield 18, 3) := by decide +kernel
theorem dX5_judge_107 : decode cX5_judge 107 = .ok (.iload 9, 2) := by decide +kernel
theorem dX5_judge_109 : decode cX5_judge 109 = .ok (.iaload, 1) := by decide +kernel
theorem dX5_judge_110 : decode cX5_judge 110 = .ok (.goto 4, 3) := by decide +kernel
theorem dX5_judge_113 : decode cX5_judge 113 = .ok (.iconst 0, 1) := by decide +kernel
theorem dX5_judge_114 : decode cX5_judge 114 = .ok (.iastore, 1) := by decide +kernel
theorem dX5_judge_115 : decode cX5_judge 115 = .ok (.iinc 9 1, 3) := by decide +kernel
theorem dX5_judge_118 : decode cX5_judge 118 = .ok (.goto (-34), 3) := by decide +kernel
theorem dX5_judge_121 : decode cX5_judge 121 = .ok (.return_, 1) := by decide +kernel
set_option maxRecDepth 20000 in
theorem ggX6_init_X3_init : GoodIn wsX6_init wsX3_init := goodIn_r _ [33, 34, 2, 3, 12, 35, 36, 37, 38, 39, 40, 41, 6, 42, 43, 44, 45, 46, 47, 48, 83, 84, 85, 86, 87, 88] (by decide +kernel) (by decide +kernel)
set_option maxRecDepth 20000 in
theorem gX6_init_X3_init : GoodIn wsX6_init (wsX3_init) := ggX6_init_X3_init
set_option maxRecDepth 20000 in
theorem ggX6_init_X4_init : GoodIn wsX6_init wsX4_init := goodIn_r _ [51, 52, 2, 3, 12, 53, 54, 46, 47, 48, 97, 98] (by decide +kernel) (by decide +kernel)
set_option maxRecDepth 20000 in
theorem gX6_init_X4_init : GoodIn wsX6_init (wsX4_init) := ggX6_init_X4_init
set_option maxRecDepth 20000 in
theorem ggX6_init_X2_init : GoodIn wsX6_init wsX2_init := goodIn_r _ [56, 57, 2, 3] (by decide +kernel) (by decide +kernel)
set_option maxRecDepth 20000 in
theorem gX6_init_X2_init_n29 : GoodIn wsX6_init (wsX2_init) := ggX6_init_X2_init
set_option maxRecDepth 20000 in
theorem ggX6_init_X5_init : GoodIn wsX6_init wsX5_init := goodIn_r _ [60, 61, 2, 3, 62, 9, 10, 63, 12, 64, 65, 66, 50, 51, 52, 53, 54, 46, 47, 48, 97, 98, 106, 107, 108, 109, 110, 111, 112, 113] (by decide +kernel) (by decide +kernel)
set_option maxRecDepth 20000 in
theorem gX6_init_X5_init : GoodIn wsX6_init (wsX5_init) := ggX6_init_X5_init
set_option maxRecDepth 20000 in
theorem ggX6_init_X1_init : GoodIn wsX6_init wsX1_init := goodIn_r _ [69, 70, 2, 3, 12, 71, 114, 115, 116, 117, 118] (by decide +kernel) (by decide +kernel)
set_option maxRecDepth 20000 in
theorem gX6_init_X1_init : GoodIn wsX6_init (wsX1_init) := ggX6_init_X1_init
set_option maxRecDepth 20000 in
theorem ggX6_init_X0_init : GoodIn wsX6_init wsX0_init := goodIn_r _ [74, 75, 2, 3, 12, 76, 77, 78, 79, 80, 81, 82, 119, 120, 121, 122, 123, 124, 125, 126, 127] (by decide +kernel) (by decide +kernel)
set_option maxRecDepth 20000 in
theorem gX6_init_X0_init : GoodIn wsX6_init (wsX0_init) := ggX6_init_X0_init
