theorem dX7_init_0 : decode cX7_init 0 = .ok (.aload_n 0, 1) := by decide +kernel
theorem dX7_init_1 : decode cX7_init 1 = .ok (.invokespecial 1, 3) := by decide +kernel
theorem dX7_init_4 : decode cX7_init 4 = .ok (.aload_n 0, 1) := by decide +kernel
theorem dX7_init_5 : decode cX7_init 5 = .ok (.iconst 1, 1) := by decide +kernel
theorem dX7_init_6 : decode cX7_init 6 = .ok (.putfield 7, 3) := by decide +kernel
theorem dX7_init_9 : decode cX7_init 9 = .ok (.aload_n 0, 1) := by decide +kernel
theorem dX7_init_10 : decode cX7_init 10 = .ok (.bipush 48, 2) := by decide +kernel
theorem dX7_init_12 : decode cX7_init 12 = .ok (.newarray .int, 2) := by decide +kernel
theorem dX7_init_14 : decode cX7_init 14 = .ok (.putfield 13, 3) := by decide +kernel
theorem dX7_init_17 : decode cX7_init 17 = .ok (.aload_n 0, 1) := by decide +kernel
theorem dX7_init_18 : decode cX7_init 18 = .ok (.bipush 10, 2) := by decide +kernel
theorem dX7_init_20 : decode cX7_init 20 = .ok (.newarray .int, 2) := by decide +kernel
theorem dX7_init_22 : decode cX7_init 22 = .ok (.putfield 17, 3) := by decide +kernel
theorem dX7_init_25 : decode cX7_init 25 = .ok (.aload_n 0, 1) := by decide +kernel
theorem dX7_init_26 : decode cX7_init 26 = .ok (.bipush 10, 2) := by decide +kernel
theorem dX7_init_28 : decode cX7_init 28 = .ok (.newarray .int, 2) := by decide +kernel
theorem dX7_init_30 : decode cX7_init 30 = .ok (.putfield 20, 3) := by decide +kernel
theorem dX7_init_33 : decode cX7_init 33 = .ok (.aload_n 0, 1) := by decide +kernel
theorem dX7_init_34 : decode cX7_init 34 = .ok (.bipush 10, 2) := by decide +kernel
theorem dX7_init_36 : decode cX7_init 36 = .ok (.newarray .int, 2) := by decide +kernel
theorem dX7_init_38 : decode cX7_init 38 = .ok (.putfield 23, 3) := by decide +kernel
theorem dX7_init_41 : decode cX7_init 41 = .ok (.aload_n 0, 1) := by decide +kernel
theorem dX7_init_42 : decode cX7_init 42 = .ok (.bipush 9, 2) := by decide +kernel
theorem dX7_init_44 : decode cX7_init 44 = .ok (.newarray .int, 2) := by decide +kernel
theorem dX7_init_46 : decode cX7_init 46 = .ok (.putfield 26, 3) := by decide +kernel
theorem dX7_init_49 : decode cX7_init 49 = .ok (.aload_n 0, 1) := by decide +kernel
theorem dX7_init_50 : decode cX7_init 50 = .ok (.sipush 500, 3) := by decide +kernel
theorem dX7_init_53 : decode cX7_init 53 = .ok (.putfield 29, 3) := by decide +kernel
theorem dX7_init_56 : decode cX7_init 56 = .ok (.aload_n 0, 1) := by decide +kernel
theorem dX7_init_57 : decode cX7_init 57 = .ok (.bipush 9, 2) := by decide +kernel
theorem dX7_init_59 : decode cX7_init 59 = .ok (.newarray .int, 2) := by decide +kernel
theorem dX7_init_61 : decode cX7_init 61 = .ok (.putfield 32, 3) := by decide +kernel
theorem dX7_init_64 : decode cX7_init 64 = .ok (.aload_n 0, 1) := by decide +kernel
theorem dX7_init_65 : decode cX7_init 65 = .ok (.bipush 120, 2) := by decide +kernel
theorem dX7_init_67 : decode cX7_init 67 = .ok (.newarray .int, 2) := by decide +kernel
theorem dX7_init_69 : decode cX7_init 69 = .ok (.putfield 35, 3) := by decide +kernel
theorem dX7_init_72 : decode cX7_init 72 = .ok (.aload_n 0, 1) := by decide +kernel
theorem dX7_init_73 : decode cX7_init 73 = .ok (.bipush 10, 2) := by decide +kernel
theorem dX7_init_75 : decode cX7_init 75 = .ok (.newarray .int, 2) := by decide +kernel
theorem dX7_init_77 : decode cX7_init 77 = .ok (.putfield 38, 3) := by decide +kernel
theorem dX7_init_80 : decode cX7_init 80 = .ok (.aload_n 0, 1) := by decide +kernel
theorem dX7_init_81 : decode cX7_init 81 = .ok (.bipush 10, 2) := by decide +kernel
theorem dX7_init_83 : decode cX7_init 83 = .ok (.newarray .int, 2) := by decide +kernel
theorem dX7_init_85 : decode cX7_init 85 = .ok (.putfield 41, 3) := by decide +kernel
theorem dX7_init_88 : decode cX7_init 88 = .ok (.aload_n 0, 1) := by decide +kernel
theorem dX7_init_89 : decode cX7_init 89 = .ok (.bipush 10, 2) := by decide +kernel
theorem dX7_init_91 : decode cX7_init 91 = .ok (.newarray .int, 2) := by decide +kernel
theorem dX7_init_93 : decode cX7_init 93 = .ok (.putfield 44, 3) := by decide +kernel
theorem dX7_init_96 : decode cX7_init 96 = .ok (.aload_n 0, 1) := by decide +kernel
theorem dX7_init_97 : decode cX7_init 97 = .ok (.bipush 10, 2) := by decide +kernel
theorem dX7_init_99 : decode cX7_init 99 = .ok (.newarray .int, 2) := by decide +kernel
theorem dX7_init_101 : decode cX7_init 101 = .ok (.putfield 47, 3) := by decide +kernel
theorem dX7_init_104 : decode cX7_init 104 = .ok (.aload_n 0, 1) := by decide +kernel
theorem dX7_init_105 : decode cX7_init 105 = .ok (.bipush 9, 2) := by decide +kernel
theorem dX7_init_107 : decode cX7_init 107 = .ok (.newarray .int, 2) := by decide +kernel
theorem dX7_init_109 : decode cX7_init 109 = .ok (.putfield 50, 3) := by decide +kernel
theorem dX7_init_112 : decode cX7_init 112 = .ok (.aload_n 0, 1) := by decide +kernel
theorem dX7_init_113 : decode cX7_init 113 = .ok (.sipush 1024, 3) := by decide +kernel
theorem dX7_init_116 : decode cX7_init 116 = .ok (.newarray .int, 2) := by decide +kernel
theorem dX7_init_118 : decode cX7_init 118 = .ok (.putfield 53, 3) := by decide +kernel
theorem dX7_init_121 : decode cX7_init 121 = .ok (.aload_n 0, 1) := by decide +kernel
theorem dX7_init_122 : decode cX7_init 122 = .ok (.bipush 9, 2) := by decide +kernel
theorem dX7_init_124 : decode cX7_init 124 = .ok (.newarray .int, 2) := by decide +kernel
theorem dX7_init_126 : decode cX7_init 126 = .ok (.putfield 56, 3) := by decide +kernel
theorem dX7_init_129 : decode cX7_init 129 = .ok (.aload_n 0, 1) := by decide +kernel
theorem dX7_init_130 : decode cX7_init 130 = .ok (.sipush 3721, 3) := by decide +kernel
theorem dX7_init_133 : decode cX7_init 133 = .ok (.newarray .int, 2) := by decide +kernel
theorem dX7_init_135 : decode cX7_init 135 = .ok (.putfield 59, 3) := by decide +kernel
theorem dX7_init_138 : decode cX7_init 138 = .ok (.iconst 0, 1) := by decide +kernel
theorem dX7_init_139 : decode cX7_init 139 = .ok (.istore_n 1, 1) := by decide +kernel
theorem dX7_init_140 : decode cX7_init 140 = .ok (.iload_n 1, 1) := by decide +kernel
theorem dX7_init_141 : decode cX7_init 141 = .ok (.bipush 9, 2) := by decide +kernel
theorem dX7_init_143 : decode cX7_init 143 = .ok (.if_icmp .ge 16, 3) := by decide +kernel
theorem dX7_init_146 : decode cX7_init 146 = .ok (.aload_n 0, 1) := by decide +kernel
theorem dX7_init_147 : decode cX7_init 147 = .ok (.getfield 26, 3) := by decide +kernel
theorem dX7_init_150 : decode cX7_init 150 = .ok (.iload_n 1, 1) := by decide +kernel
theorem dX7_init_151 : decode cX7_init 151 = .ok (.iconst 1, 1) := by decide +kernel
theorem dX7_init_152 : decode cX7_init 152 = .ok (.iastore, 1) := by decide +kernel
theorem dX7_init_153 : decode cX7_init 153 = .ok (.iinc 1 1, 3) := by decide +kernel
theorem dX7_init_156 : decode cX7_init 156 = .ok (.goto (-16), 3) := by decide +kernel
theorem dX7_init_159 : decode cX7_init 159 = .ok (.aload_n 0, 1) := by decide +kernel
theorem dX7_init_160 : decode cX7_init 160 = .ok (.invokevirtual 62, 3) := by decide +kernel
theorem dX7_init_163 : decode cX7_init 163 = .ok (.return_, 1) := by decide +kernel
theorem dX7_clear_0 : decode cX7_clear 0 = .ok (.aload_n 0, 1) := by decide +kernel
theorem dX7_clear_1 : decode cX7_clear 1 = .ok (.iconst 0, 1) := by decide +kernel
theorem dX7_clear_2 : decode cX7_clear 2 = .ok (.putfield 65, 3) := by decide +kernel
theorem dX7_clear_5 : decode cX7_clear 5 = .ok (.iconst 0, 1) := by decide +kernel
theorem dX7_clear_6 : decode cX7_clear 6 = .ok (.istore_n 1, 1) := by decide +kernel
theorem dX7_clear_7 : decode cX7_clear 7 = .ok (.iload_n 1, 1) := by decide +kernel
theorem dX7_clear_8 : decode cX7_clear 8 = .ok (.bipush 10, 2) := by decide +kernel
theorem dX7_clear_10 : decode cX7_clear 10 = .ok (.if_icmp .ge 30, 3) := by decide +kernel
theorem dX7_clear_13 : decode cX7_clear 13 = .ok (.aload_n 0, 1) := by decide +kernel
theorem dX7_clear_14 : decode cX7_clear 14 = .ok (.getfield 17, 3) := by decide +kernel
theorem dX7_clear_17 : decode cX7_clear 17 = .ok (.iload_n 1, 1) := by decide +kernel
theorem dX7_clear_18 : decode cX7_clear 18 = .ok (.iconst 0, 1) := by decide +kernel
theorem dX7_clear_19 : decode cX7_clear 19 = .ok (.iastore, 1) := by decide +kernel
theorem dX7_clear_20 : decode cX7_clear 20 = .ok (.aload_n 0, 1) := by decide +kernel
theorem dX7_clear_21 : decode cX7_clear 21 = .ok (.getfield 20, 3) := by decide +kernel
theorem dX7_clear_24 : decode cX7_clear 24 = .ok (.iload_n 1, 1) := by decide +kernel
theorem dX7_clear_25 : decode cX7_clear 25 = .ok (.iconst 1, 1) := by decide +kernel
theorem dX7_clear_26 : decode cX7_clear 26 = .ok (.iastore, 1) := by decide +kernel
theorem dX7_clear_27 : decode cX7_clear 27 = .ok (.aload_n 0, 1) := by decide +kernel
theorem dX7_clear_28 : decode cX7_clear 28 = .ok (.getfield 23, 3) := by decide +kernel
theorem dX7_clear_31 : decode cX7_clear 31 = .ok (.iload_n 1, 1) := by decide +kernel
theorem dX7_clear_32 : decode cX7_clear 32 = .ok (.iconst 1, 1) := by decide +kernel
theorem dX7_clear_33 : decode cX7_clear 33 = .ok (.iastore, 1) := by decide +kernel
theorem dX7_clear_34 : decode cX7_clear 34 = .ok (.iinc 1 1, 3) := by decide +kernel
theorem dX7_clear_37 : decode cX7_clear 37 = .ok (.goto (-30), 3) := by decide +kernel
theorem dX7_clear_40 : decode cX7_clear 40 = .ok (.iconst 0, 1) := by decide +kernel
theorem dX7_clear_41 : decode cX7_clear 41 = .ok (.istore_n 1, 1) := by decide +kernel
theorem dX7_clear_42 : decode cX7_clear 42 = .ok (.iload_n 1, 1) := by decide +kernel
theorem dX7_clear_43 : decode cX7_clear 43 = .ok (.bipush 9, 2) := by decide +kernel
theorem dX7_clear_45 : decode cX7_clear 45 = .ok (.if_icmp .ge 16, 3) := by decide +kernel
theorem dX7_clear_48 : decode cX7_clear 48 = .ok (.aload_n 0, 1) := by decide +kernel
theorem dX7_clear_49 : decode cX7_clear 49 = .ok (.getfield 32, 3) := by decide +kernel
theorem dX7_clear_52 : decode cX7_clear 52 = .ok (.iload_n 1, 1) := by decide +kernel
theorem dX7_clear_53 : decode cX7_clear 53 = .ok (.iconst 0, 1) := by decide +kernel
theorem dX7_clear_54 : decode cX7_clear 54 = .ok (.iastore, 1) := by decide +kernel
theorem dX7_clear_55 : decode cX7_clear 55 = .ok (.iinc 1 1, 3) := by decide +kernel
theorem dX7_clear_58 : decode cX7_clear 58 = .ok (.goto (-16), 3) := by decide +kernel
theorem dX7_clear_61 : decode cX7_clear 61 = .ok (.return_, 1) := by decide +kernel
theorem dX7_in_0 : decode cX7_in 0 = .ok (.lload_n 0, 1) := by decide +kernel
theorem dX7_in_1 : decode cX7_in 1 = .ok (.lload_n 2, 1) := by decide +kernel
theorem dX7_in_2 : decode cX7_in 2 = .ok (.lcmp, 1) := by decide +kernel
theorem dX7_in_3 : decode cX7_in 3 = .ok (.ifCond .lt 14, 3) := by decide +kernel
theorem dX7_in_6 : decode cX7_in 6 = .ok (.lload_n 0, 1) := by decide +kernel
theorem dX7_in_7 : decode cX7_in 7 = .ok (.lload 4, 2) := by decide +kernel
theorem dX7_in_9 : decode cX7_in 9 = .ok (.lcmp, 1) := by decide +kernel
theorem dX7_in_10 : decode cX7_in 10 = .ok (.ifCond .gt 7, 3) := by decide +kernel
theorem dX7_in_13 : decode cX7_in 13 = .ok (.iconst 1, 1) := by decide +kernel
theorem dX7_in_14 : decode cX7_in 14 = .ok (.goto 4, 3) := by decide +kernel
theorem dX7_in_17 : decode cX7_in 17 = .ok (.iconst 0, 1) := by decide +kernel
theorem dX7_in_18 : decode cX7_in 18 = .ok (.ireturn, 1) := by decide +kernel
set_option maxRecDepth 20000 in
theorem ggX7_isNode_X7_in : GoodIn wsX7_isNode wsX7_in := goodIn_r _ [5] (by decide +kernel) (by decide +kernel)
set_option maxRecDepth 20000 in
theorem gX7_isNode_X7_in : GoodIn wsX7_isNode (va_wsS RX7 68 yX7_in wsX7_in) := goodIn_app (goodIn_of _ (by decide +kernel)) ggX7_isNode_X7_in
theorem dX7_isNode_0 : decode cX7_isNode 0 = .ok (.iload_n 1, 1) := by decide +kernel
theorem dX7_isNode_1 : decode cX7_isNode 1 = .ok (.i2l, 1) := by decide +kernel
theorem dX7_isNode_2 : decode cX7_isNode 2 = .ok (.lconst 0, 1) := by decide +kernel
theorem dX7_isNode_3 : decode cX7_isNode 3 = .ok (.aload_n 0, 1) := by decide +kernel
theorem dX7_isNode_4 : decode cX7_isNode 4 = .ok (.getfield 7, 3) := by decide +kernel
theorem dX7_isNode_7 : decode cX7_isNode 7 = .ok (.iconst 1, 1) := by decide +kernel
theorem dX7_isNode_8 : decode cX7_isNode 8 = .ok (.isub, 1) := by decide +kernel
theorem dX7_isNode_9 : decode cX7_isNode 9 = .ok (.i2l, 1) := by decide +kernel
theorem dX7_isNode_10 : decode cX7_isNode 10 = .ok (.invokestatic 68, 3) := by decide +kernel
theorem dX7_isNode_13 : decode cX7_isNode 13 = .ok (.ireturn, 1) := by decide +kernel
theorem dX7_all_0 : decode cX7_all 0 = .ok (.iconst 1, 1) := by decide +kernel
theorem dX7_all_1 : decode cX7_all 1 = .ok (.aload_n 0, 1) := by decide +kernel
theorem dX7_all_2 : decode cX7_all 2 = .ok (.getfield 7, 3) := by decide +kernel
theorem dX7_all_5 : decode cX7_all 5 = .ok (.ishl, 1) := by decide +kernel
theorem dX7_all_6 : decode cX7_all 6 = .ok (.iconst 1, 1) := by decide +kernel
theorem dX7_all_7 : decode cX7_all 7 = .ok (.isub, 1) := by decide +kernel
theorem dX7_all_8 : decode cX7_all 8 = .ok (.ireturn, 1) := by decide +kernel
set_option maxRecDepth 20000 in
theorem ggX7_isFire_X7_all : GoodIn wsX7_isFire wsX7_all := goodIn_r _ [5, 6, 10, 11, 12, 13, 14, 15, 16, 17, 18, 19, 20, 21, 22, 23, 24, 25, 26, 27, 28, 29, 30, 31, 32, 33, 34, 35, 36, 37, 38, 39, 40, 41, 42, 43] (by decide +kernel) (by decide +kernel)
set_option maxRecDepth 20000 in
theorem gX7_isFire_X7_all : GoodIn wsX7_isFire (wsV RX7 72 RX7 yX7_all wsX7_all) := goodIn_app (goodIn_of _ (by decide +kernel)) ggX7_isFire_X7_all
set_option maxRecDepth 20000 in
theorem ggX7_isFire_X7_in : GoodIn wsX7_isFire wsX7_in := goodIn_r _ [9] (by decide +kernel) (by decide +kernel)
set_option maxRecDepth 20000 in
theorem gX7_isFire_X7_in : GoodIn wsX7_isFire (va_wsS RX7 68 yX7_in wsX7_in) := goodIn_app (goodIn_of _ (by decide +kernel)) ggX7_isFire_X7_in
theorem dX7_isFire_0 : decode cX7_isFire 0 = .ok (.iload_n 1, 1) := by decide +kernel
theorem dX7_isFire_1 : decode cX7_isFire 1 = .ok (.i2l, 1) := by decide +kernel
theorem dX7_isFire_2 : decode cX7_isFire 2 = .ok (.lconst 1, 1) := by decide +kernel
theorem dX7_isFire_3 : decode cX7_isFire 3 = .ok (.aload_n 0, 1) := by decide +kernel
theorem dX7_isFire_4 : decode cX7_isFire 4 = .ok (.invokevirtual 72, 3) := by decide +kernel
theorem dX7_isFire_7 : decode cX7_isFire 7 = .ok (.i2l, 1) := by decide +kernel
theorem dX7_isFire_8 : decode cX7_isFire 8 = .ok (.invokestatic 68, 3) := by decide +kernel
theorem dX7_isFire_11 : decode cX7_isFire 11 = .ok (.ireturn, 1) := by decide +kernel
set_option maxRecDepth 20000 in
theorem ggX7_net_X7_in : GoodIn wsX7_net wsX7_in := goodIn_r _ [6] (by decide +kernel) (by decide +kernel)
set_option maxRecDepth 20000 in
theorem gX7_net_X7_in : GoodIn wsX7_net (va_wsS RX7 68 yX7_in wsX7_in) := goodIn_app (goodIn_of _ (by decide +kernel)) ggX7_net_X7_in
set_option maxRecDepth 20000 in
theorem ggX7_net_X7_clear : GoodIn wsX7_net wsX7_clear := goodIn_r _ [10, 11, 12, 13, 14, 15, 16, 17, 18, 19, 20, 21, 22, 23, 24, 25, 26, 27, 28, 29, 30, 31, 32, 33, 34, 35, 36, 37, 38, 39, 40, 41, 42, 43, 44, 45, 46, 47, 48, 49] (by decide +kernel) (by decide +kernel)
set_option maxRecDepth 20000 in
theorem gX7_net_X7_clear : GoodIn wsX7_net (wsV RX7 62 RX7 yX7_clear wsX7_clear) := goodIn_app (goodIn_of _ (by decide +kernel)) ggX7_net_X7_clear
theorem dX7_net_0 : decode cX7_net 0 = .ok (.iload_n 1, 1) := by decide +kernel
theorem dX7_net_1 : decode cX7_net 1 = .ok (.i2l, 1) := by decide +kernel
theorem dX7_net_2 : decode cX7_net 2 = .ok (.lconst 1, 1) := by decide +kernel
theorem dX7_net_3 : decode cX7_net 3 = .ok (.ldc2_w 76, 3) := by decide +kernel
theorem dX7_net_6 : decode cX7_net 6 = .ok (.invokestatic 68, 3) := by decide +kernel
theorem dX7_net_9 : decode cX7_net 9 = .ok (.ifCond .ne 7, 3) := by decide +kernel
theorem dX7_net_12 : decode cX7_net 12 = .ok (.sipush (-1002), 3) := by decide +kernel
theorem dX7_net_15 : decode cX7_net 15 = .ok (.ireturn, 1) := by decide +kernel
theorem dX7_net_16 : decode cX7_net 16 = .ok (.aload_n 0, 1) := by decide +kernel
theorem dX7_net_17 : decode cX7_net 17 = .ok (.iload_n 1, 1) := by decide +kernel
theorem dX7_net_18 : decode cX7_net 18 = .ok (.putfield 7, 3) := by decide +kernel
theorem dX7_net_21 : decode cX7_net 21 = .ok (.aload_n 0, 1) := by decide +kernel
theorem dX7_net_22 : decode cX7_net 22 = .ok (.invokevirtual 62, 3) := by decide +kernel
theorem dX7_net_25 : decode cX7_net 25 = .ok (.iconst 1, 1) := by decide +kernel
theorem dX7_net_26 : decode cX7_net 26 = .ok (.ireturn, 1) := by decide +kernel
set_option maxRecDepth 20000 in
theorem ggX7_line_X7_isNode : GoodIn wsX7_line wsX7_isNode := goodIn_r _ [8, 9, 10, 11, 7, 12, 13, 14, 15, 16, 17, 18, 19, 20, 21, 22, 23, 24, 25, 26, 27, 28, 29, 30, 31, 32, 33, 34, 35, 36, 37, 38, 39, 40, 41, 42, 43, 44, 45, 46] (by decide +kernel) (by decide +kernel)
set_option maxRecDepth 20000 in
theorem gX7_line_X7_isNode : GoodIn wsX7_line (wsV RX7 78 RX7 yX7_isNode wsX7_isNode) := goodIn_app (goodIn_of _ (by decide +kernel)) ggX7_line_X7_isNode
theorem dX7_line_0 : decode cX7_line 0 = .ok (.aload_n 0, 1) := by decide +kernel
theorem dX7_line_1 : decode cX7_line 1 = .ok (.iload_n 1, 1) := by decide +kernel
theorem dX7_line_2 : decode cX7_line 2 = .ok (.invokevirtual 78, 3) := by decide +kernel
theorem dX7_line_5 : decode cX7_line 5 = .ok (.ifCond .eq 11, 3) := by decide +kernel
theorem dX7_line_8 : decode cX7_line 8 = .ok (.aload_n 0, 1) := by decide +kernel
theorem dX7_line_9 : decode cX7_line 9 = .ok (.iload_n 2, 1) := by decide +kernel
theorem dX7_line_10 : decode cX7_line 10 = .ok (.invokevirtual 78, 3) := by decide +kernel
theorem dX7_line_13 : decode cX7_line 13 = .ok (.ifCond .ne 7, 3) := by decide +kernel
theorem dX7_line_16 : decode cX7_line 16 = .ok (.sipush (-1001), 3) := by decide +kernel
theorem dX7_line_19 : decode cX7_line 19 = .ok (.ireturn, 1) := by decide +kernel
theorem dX7_line_20 : decode cX7_line 20 = .ok (.iload_n 1, 1) := by decide +kernel
theorem dX7_line_21 : decode cX7_line 21 = .ok (.iload_n 2, 1) := by decide +kernel
theorem dX7_line_22 : decode cX7_line 22 = .ok (.if_icmp .ne 7, 3) := by decide +kernel
theorem dX7_line_25 : decode cX7_line 25 = .ok (.sipush (-1002), 3) := by decide +kernel
theorem dX7_line_28 : decode cX7_line 28 = .ok (.ireturn, 1) := by decide +kernel
theorem dX7_line_29 : decode cX7_line 29 = .ok (.aload_n 0, 1) := by decide +kernel
theorem dX7_line_30 : decode cX7_line 30 = .ok (.getfield 17, 3) := by decide +kernel
theorem dX7_line_33 : decode cX7_line 33 = .ok (.iload_n 1, 1) := by decide +kernel
theorem dX7_line_34 : decode cX7_line 34 = .ok (.iaload, 1) := by decide +kernel
theorem dX7_line_35 : decode cX7_line 35 = .ok (.iload_n 2, 1) := by decide +kernel
theorem dX7_line_36 : decode cX7_line 36 = .ok (.ishr, 1) := by decide +kernel
theorem dX7_line_37 : decode cX7_line 37 = .ok (.iconst 1, 1) := by decide +kernel
theorem dX7_line_38 : decode cX7_line 38 = .ok (.iand, 1) := by decide +kernel
theorem dX7_line_39 : decode cX7_line 39 = .ok (.iconst 1, 1) := by decide +kernel
theorem dX7_line_40 : decode cX7_line 40 = .ok (.if_icmp .ne 7, 3) := by decide +kernel
theorem dX7_line_43 : decode cX7_line 43 = .ok (.sipush (-1003), 3) := by decide +kernel
theorem dX7_line_46 : decode cX7_line 46 = .ok (.ireturn, 1) := by decide +kernel
theorem dX7_line_47 : decode cX7_line 47 = .ok (.aload_n 0, 1) := by decide +kernel
theorem dX7_line_48 : decode cX7_line 48 = .ok (.getfield 65, 3) := by decide +kernel
theorem dX7_line_51 : decode cX7_line 51 = .ok (.bipush 24, 2) := by decide +kernel
theorem dX7_line_53 : decode cX7_line 53 = .ok (.if_icmp .ne 7, 3) := by decide +kernel
theorem dX7_line_56 : decode cX7_line 56 = .ok (.sipush (-1004), 3) := by decide +kernel
theorem dX7_line_59 : decode cX7_line 59 = .ok (.ireturn, 1) := by decide +kernel
theorem dX7_line_60 : decode cX7_line 60 = .ok (.aload_n 0, 1) := by decide +kernel
theorem dX7_line_61 : decode cX7_line 61 = .ok (.getfield 13, 3) := by decide +kernel
theorem dX7_line_64 : decode cX7_line 64 = .ok (.iconst 2, 1) := by decide +kernel
theorem dX7_line_65 : decode cX7_line 65 = .ok (.aload_n 0, 1) := by decide +kernel
theorem dX7_line_66 : decode cX7_line 66 = .ok (.getfield 65, 3) := by decide +kernel
theorem dX7_line_69 : decode cX7_line 69 = .ok (.imul, 1) := by decide +kernel
theorem dX7_line_70 : decode cX7_line 70 = .ok (.iload_n 1, 1) := by decide +kernel
theorem dX7_line_71 : decode cX7_line 71 = .ok (.iastore, 1) := by decide +kernel
theorem dX7_line_72 : decode cX7_line 72 = .ok (.aload_n 0, 1) := by decide +kernel
theorem dX7_line_73 : decode cX7_line 73 = .ok (.getfield 13, 3) := by decide +kernel
theorem dX7_line_76 : decode cX7_line 76 = .ok (.iconst 2, 1) := by decide +kernel
theorem dX7_line_77 : decode cX7_line 77 = .ok (.aload_n 0, 1) := by decide +kernel
theorem dX7_line_78 : decode cX7_line 78 = .ok (.getfield 65, 3) := by decide +kernel
theorem dX7_line_81 : decode cX7_line 81 = .ok (.imul, 1) := by decide +kernel
theorem dX7_line_82 : decode cX7_line 82 = .ok (.iconst 1, 1) := by decide +kernel
theorem dX7_line_83 : decode cX7_line 83 = .ok (.iadd, 1) := by decide +kernel
theorem dX7_line_84 : decode cX7_line 84 = .ok (.iload_n 2, 1) := by decide +kernel
theorem dX7_line_85 : decode cX7_line 85 = .ok (.iastore, 1) := by decide +kernel
theorem dX7_line_86 : decode cX7_line 86 = .ok (.aload_n 0, 1) := by decide +kernel
theorem dX7_line_87 : decode cX7_line 87 = .ok (.getfield 17, 3) := by decide +kernel
theorem dX7_line_90 : decode cX7_line 90 = .ok (.iload_n 1, 1) := by decide +kernel
theorem dX7_line_91 : decode cX7_line 91 = .ok (.dup2, 1) := by decide +kernel
theorem dX7_line_92 : decode cX7_line 92 = .ok (.iaload, 1) := by decide +kernel
theorem dX7_line_93 : decode cX7_line 93 = .ok (.iconst 1, 1) := by decide +kernel
theorem dX7_line_94 : decode cX7_line 94 = .ok (.iload_n 2, 1) := by decide +kernel
theorem dX7_line_95 : decode cX7_line 95 = .ok (.ishl, 1) := by decide +kernel
theorem dX7_line_96 : decode cX7_line 96 = .ok (.ior, 1) := by decide +kernel
theorem dX7_line_97 : decode cX7_line 97 = .ok (.iastore, 1) := by decide +kernel
theorem dX7_line_98 : decode cX7_line 98 = .ok (.aload_n 0, 1) := by decide +kernel
theorem dX7_line_99 : decode cX7_line 99 = .ok (.getfield 17, 3) := by decide +kernel
theorem dX7_line_102 : decode cX7_line 102 = .ok (.iload_n 2, 1) := by decide +kernel
theorem dX7_line_103 : decode cX7_line 103 = .ok (.dup2, 1) := by decide +kernel
theorem dX7_line_104 : decode cX7_line 104 = .ok (.iaload, 1) := by decide +kernel
theorem dX7_line_105 : decode cX7_line 105 = .ok (.iconst 1, 1) := by decide +kernel
theorem dX7_line_106 : decode cX7_line 106 = .ok (.iload_n 1, 1) := by decide +kernel
theorem dX7_line_107 : decode cX7_line 107 = .ok (.ishl, 1) := by decide +kernel
theorem dX7_line_108 : decode cX7_line 108 = .ok (.ior, 1) := by decide +kernel
theorem dX7_line_109 : decode cX7_line 109 = .ok (.iastore, 1) := by decide +kernel
theorem dX7_line_110 : decode cX7_line 110 = .ok (.aload_n 0, 1) := by decide +kernel
theorem dX7_line_111 : decode cX7_line 111 = .ok (.dup, 1) := by decide +kernel
theorem dX7_line_112 : decode cX7_line 112 = .ok (.getfield 65, 3) := by decide +kernel
theorem dX7_line_115 : decode cX7_line 115 = .ok (.iconst 1, 1) := by decide +kernel
theorem dX7_line_116 : decode cX7_line 116 = .ok (.iadd, 1) := by decide +kernel
theorem dX7_line_117 : decode cX7_line 117 = .ok (.putfield 65, 3) := by decide +kernel
theorem dX7_line_120 : decode cX7_line 120 = .ok (.aload_n 0, 1) := by decide +kernel
theorem dX7_line_121 : decode cX7_line 121 = .ok (.getfield 65, 3) := by decide +kernel
theorem dX7_line_124 : decode cX7_line 124 = .ok (.iconst 1, 1) := by decide +kernel
theorem dX7_line_125 : decode cX7_line 125 = .ok (.isub, 1) := by decide +kernel
theorem dX7_line_126 : decode cX7_line 126 = .ok (.ireturn, 1) := by decide +kernel
set_option maxRecDepth 20000 in
theorem ggX7_node_X7_isNode : GoodIn wsX7_node wsX7_isNode := goodIn_r _ [8, 9, 10, 11, 7, 12, 13, 14, 15, 16, 17, 18, 19, 20, 21, 22, 23, 24, 25, 26, 27, 28, 29, 30, 31, 32, 33, 34, 35, 36, 37, 38, 39, 40, 41, 42, 43, 44, 45, 46] (by decide +kernel) (by decide +kernel)
set_option maxRecDepth 20000 in
theorem gX7_node_X7_isNode : GoodIn wsX7_node (wsV RX7 78 RX7 yX7_isNode wsX7_isNode) := goodIn_app (goodIn_of _ (by decide +kernel)) ggX7_node_X7_isNode
set_option maxRecDepth 20000 in
theorem ggX7_node_X7_in : GoodIn wsX7_node wsX7_in := goodIn_r _ [12] (by decide +kernel) (by decide +kernel)
set_option maxRecDepth 20000 in
theorem gX7_node_X7_in : GoodIn wsX7_node (va_wsS RX7 68 yX7_in wsX7_in) := goodIn_app (goodIn_of _ (by decide +kernel)) ggX7_node_X7_in
theorem dX7_node_0 : decode cX7_node 0 = .ok (.aload_n 0, 1) := by decide +kernel
theorem dX7_node_1 : decode cX7_node 1 = .ok (.iload_n 1, 1) := by decide +kernel
theorem dX7_node_2 : decode cX7_node 2 = .ok (.invokevirtual 78, 3) := by decide +kernel
theorem dX7_node_5 : decode cX7_node 5 = .ok (.ifCond .ne 7, 3) := by decide +kernel
theorem dX7_node_8 : decode cX7_node 8 = .ok (.sipush (-1001), 3) := by decide +kernel
theorem dX7_node_11 : decode cX7_node 11 = .ok (.ireturn, 1) := by decide +kernel
theorem dX7_node_12 : decode cX7_node 12 = .ok (.iload_n 2, 1) := by decide +kernel
theorem dX7_node_13 : decode cX7_node 13 = .ok (.i2l, 1) := by decide +kernel
theorem dX7_node_14 : decode cX7_node 14 = .ok (.lconst 0, 1) := by decide +kernel
theorem dX7_node_15 : decode cX7_node 15 = .ok (.lconst 1, 1) := by decide +kernel
theorem dX7_node_16 : decode cX7_node 16 = .ok (.invokestatic 68, 3) := by decide +kernel
theorem dX7_node_19 : decode cX7_node 19 = .ok (.ifCond .eq 16, 3) := by decide +kernel
theorem dX7_node_22 : decode cX7_node 22 = .ok (.iload_n 3, 1) := by decide +kernel
theorem dX7_node_23 : decode cX7_node 23 = .ok (.i2l, 1) := by decide +kernel
theorem dX7_node_24 : decode cX7_node 24 = .ok (.iload_n 2, 1) := by decide +kernel
theorem dX7_node_25 : decode cX7_node 25 = .ok (.i2l, 1) := by decide +kernel
theorem dX7_node_26 : decode cX7_node 26 = .ok (.ldc2_w 82, 3) := by decide +kernel
theorem dX7_node_29 : decode cX7_node 29 = .ok (.invokestatic 68, 3) := by decide +kernel
theorem dX7_node_32 : decode cX7_node 32 = .ok (.ifCond .ne 7, 3) := by decide +kernel
theorem dX7_node_35 : decode cX7_node 35 = .ok (.sipush (-1002), 3) := by decide +kernel
theorem dX7_node_38 : decode cX7_node 38 = .ok (.ireturn, 1) := by decide +kernel
theorem dX7_node_39 : decode cX7_node 39 = .ok (.iload_n 2, 1) := by decide +kernel
theorem dX7_node_40 : decode cX7_node 40 = .ok (.ifCond .ne 12, 3) := by decide +kernel
theorem dX7_node_43 : decode cX7_node 43 = .ok (.aload_n 0, 1) := by decide +kernel
theorem dX7_node_44 : decode cX7_node 44 = .ok (.getfield 20, 3) := by decide +kernel
theorem dX7_node_47 : decode cX7_node 47 = .ok (.iload_n 1, 1) := by decide +kernel
theorem dX7_node_48 : decode cX7_node 48 = .ok (.iaload, 1) := by decide +kernel
theorem dX7_node_49 : decode cX7_node 49 = .ok (.goto 9, 3) := by decide +kernel
theorem dX7_node_52 : decode cX7_node 52 = .ok (.aload_n 0, 1) := by decide +kernel
theorem dX7_node_53 : decode cX7_node 53 = .ok (.getfield 23, 3) := by decide +kernel
theorem dX7_node_56 : decode cX7_node 56 = .ok (.iload_n 1, 1) := by decide +kernel
theorem dX7_node_57 : decode cX7_node 57 = .ok (.iaload, 1) := by decide +kernel
theorem dX7_node_58 : decode cX7_node 58 = .ok (.istore 4, 2) := by decide +kernel
theorem dX7_node_60 : decode cX7_node 60 = .ok (.iload_n 2, 1) := by decide +kernel
theorem dX7_node_61 : decode cX7_node 61 = .ok (.ifCond .ne 13, 3) := by decide +kernel
theorem dX7_node_64 : decode cX7_node 64 = .ok (.aload_n 0, 1) := by decide +kernel
theorem dX7_node_65 : decode cX7_node 65 = .ok (.getfield 20, 3) := by decide +kernel
theorem dX7_node_68 : decode cX7_node 68 = .ok (.iload_n 1, 1) := by decide +kernel
theorem dX7_node_69 : decode cX7_node 69 = .ok (.iload_n 3, 1) := by decide +kernel
theorem dX7_node_70 : decode cX7_node 70 = .ok (.iastore, 1) := by decide +kernel
theorem dX7_node_71 : decode cX7_node 71 = .ok (.goto 10, 3) := by decide +kernel
theorem dX7_node_74 : decode cX7_node 74 = .ok (.aload_n 0, 1) := by decide +kernel
theorem dX7_node_75 : decode cX7_node 75 = .ok (.getfield 23, 3) := by decide +kernel
theorem dX7_node_78 : decode cX7_node 78 = .ok (.iload_n 1, 1) := by decide +kernel
theorem dX7_node_79 : decode cX7_node 79 = .ok (.iload_n 3, 1) := by decide +kernel
theorem dX7_node_80 : decode cX7_node 80 = .ok (.iastore, 1) := by decide +kernel
theorem dX7_node_81 : decode cX7_node 81 = .ok (.iload 4, 2) := by decide +kernel
theorem dX7_node_83 : decode cX7_node 83 = .ok (.ireturn, 1) := by decide +kernel
set_option maxRecDepth 20000 in
theorem ggX7_purse_X7_in : GoodIn wsX7_purse wsX7_in := goodIn_r _ [7] (by decide +kernel) (by decide +kernel)
set_option maxRecDepth 20000 in
theorem gX7_purse_X7_in : GoodIn wsX7_purse (va_wsS RX7 68 yX7_in wsX7_in) := goodIn_app (goodIn_of _ (by decide +kernel)) ggX7_purse_X7_in
theorem dX7_purse_0 : decode cX7_purse 0 = .ok (.iload_n 1, 1) := by decide +kernel
theorem dX7_purse_1 : decode cX7_purse 1 = .ok (.i2l, 1) := by decide +kernel
theorem dX7_purse_2 : decode cX7_purse 2 = .ok (.lconst 1, 1) := by decide +kernel
theorem dX7_purse_3 : decode cX7_purse 3 = .ok (.ldc2_w 84, 3) := by decide +kernel
theorem dX7_purse_6 : decode cX7_purse 6 = .ok (.invokestatic 68, 3) := by decide +kernel
theorem dX7_purse_9 : decode cX7_purse 9 = .ok (.ifCond .eq 15, 3) := by decide +kernel
theorem dX7_purse_12 : decode cX7_purse 12 = .ok (.iload_n 2, 1) := by decide +kernel
theorem dX7_purse_13 : decode cX7_purse 13 = .ok (.i2l, 1) := by decide +kernel
theorem dX7_purse_14 : decode cX7_purse 14 = .ok (.lconst 0, 1) := by decide +kernel
theorem dX7_purse_15 : decode cX7_purse 15 = .ok (.ldc2_w 86, 3) := by decide +kernel
theorem dX7_purse_18 : decode cX7_purse 18 = .ok (.invokestatic 68, 3) := by decide +kernel
theorem dX7_purse_21 : decode cX7_purse 21 = .ok (.ifCond .ne 7, 3) := by decide +kernel
theorem dX7_purse_24 : decode cX7_purse 24 = .ok (.sipush (-1002), 3) := by decide +kernel
theorem dX7_purse_27 : decode cX7_purse 27 = .ok (.ireturn, 1) := by decide +kernel
theorem dX7_purse_28 : decode cX7_purse 28 = .ok (.aload_n 0, 1) := by decide +kernel
theorem dX7_purse_29 : decode cX7_purse 29 = .ok (.getfield 26, 3) := by decide +kernel
theorem dX7_purse_32 : decode cX7_purse 32 = .ok (.iload_n 1, 1) := by decide +kernel
theorem dX7_purse_33 : decode cX7_purse 33 = .ok (.iaload, 1) := by decide +kernel
theorem dX7_purse_34 : decode cX7_purse 34 = .ok (.istore_n 3, 1) := by decide +kernel
theorem dX7_purse_35 : decode cX7_purse 35 = .ok (.aload_n 0, 1) := by decide +kernel
theorem dX7_purse_36 : decode cX7_purse 36 = .ok (.getfield 26, 3) := by decide +kernel
theorem dX7_purse_39 : decode cX7_purse 39 = .ok (.iload_n 1, 1) := by decide +kernel
theorem dX7_purse_40 : decode cX7_purse 40 = .ok (.iload_n 2, 1) := by decide +kernel
theorem dX7_purse_41 : decode cX7_purse 41 = .ok (.iastore, 1) := by decide +kernel
theorem dX7_purse_42 : decode cX7_purse 42 = .ok (.iload_n 3, 1) := by decide +kernel
theorem dX7_purse_43 : decode cX7_purse 43 = .ok (.ireturn, 1) := by decide +kernel
set_option maxRecDepth 20000 in
theorem ggX7_rule_X7_in : GoodIn wsX7_rule wsX7_in := goodIn_r _ [8] (by decide +kernel) (by decide +kernel)
set_option maxRecDepth 20000 in
theorem gX7_rule_X7_in : GoodIn wsX7_rule (va_wsS RX7 68 yX7_in wsX7_in) := goodIn_app (goodIn_of _ (by decide +kernel)) ggX7_rule_X7_in
theorem dX7_rule_0 : decode cX7_rule 0 = .ok (.iload_n 1, 1) := by decide +kernel
theorem dX7_rule_1 : decode cX7_rule 1 = .ok (.i2l, 1) := by decide +kernel
theorem dX7_rule_2 : decode cX7_rule 2 = .ok (.lconst 0, 1) := by decide +kernel
theorem dX7_rule_3 : decode cX7_rule 3 = .ok (.lconst 1, 1) := by decide +kernel
theorem dX7_rule_4 : decode cX7_rule 4 = .ok (.invokestatic 68, 3) := by decide +kernel
theorem dX7_rule_7 : decode cX7_rule 7 = .ok (.ifCond .eq 33, 3) := by decide +kernel
theorem dX7_rule_10 : decode cX7_rule 10 = .ok (.iload_n 2, 1) := by decide +kernel
theorem dX7_rule_11 : decode cX7_rule 11 = .ok (.i2l, 1) := by decide +kernel
theorem dX7_rule_12 : decode cX7_rule 12 = .ok (.iload_n 1, 1) := by decide +kernel
theorem dX7_rule_13 : decode cX7_rule 13 = .ok (.ifCond .ne 7, 3) := by decide +kernel
theorem dX7_rule_16 : decode cX7_rule 16 = .ok (.lconst 0, 1) := by decide +kernel
theorem dX7_rule_17 : decode cX7_rule 17 = .ok (.goto 6, 3) := by decide +kernel
theorem dX7_rule_20 : decode cX7_rule 20 = .ok (.ldc2_w 88, 3) := by decide +kernel
theorem dX7_rule_23 : decode cX7_rule 23 = .ok (.iload_n 1, 1) := by decide +kernel
theorem dX7_rule_24 : decode cX7_rule 24 = .ok (.ifCond .ne 7, 3) := by decide +kernel
theorem dX7_rule_27 : decode cX7_rule 27 = .ok (.lconst 1, 1) := by decide +kernel
theorem dX7_rule_28 : decode cX7_rule 28 = .ok (.goto 6, 3) := by decide +kernel
theorem dX7_rule_31 : decode cX7_rule 31 = .ok (.ldc2_w 90, 3) := by decide +kernel
theorem dX7_rule_34 : decode cX7_rule 34 = .ok (.invokestatic 68, 3) := by decide +kernel
theorem dX7_rule_37 : decode cX7_rule 37 = .ok (.ifCond .ne 7, 3) := by decide +kernel
theorem dX7_rule_40 : decode cX7_rule 40 = .ok (.sipush (-1002), 3) := by decide +kernel
theorem dX7_rule_43 : decode cX7_rule 43 = .ok (.ireturn, 1) := by decide +kernel
theorem dX7_rule_44 : decode cX7_rule 44 = .ok (.iload_n 1, 1) := by decide +kernel
theorem dX7_rule_45 : decode cX7_rule 45 = .ok (.ifCond .ne 18, 3) := by decide +kernel
theorem dX7_rule_48 : decode cX7_rule 48 = .ok (.aload_n 0, 1) := by decide +kernel
theorem dX7_rule_49 : decode cX7_rule 49 = .ok (.getfield 92, 3) := by decide +kernel
theorem dX7_rule_52 : decode cX7_rule 52 = .ok (.ifCond .eq 7, 3) := by decide +kernel
theorem dX7_rule_55 : decode cX7_rule 55 = .ok (.iconst 1, 1) := by decide +kernel
theorem dX7_rule_56 : decode cX7_rule 56 = .ok (.goto 11, 3) := by decide +kernel
theorem dX7_rule_59 : decode cX7_rule 59 = .ok (.iconst 0, 1) := by decide +kernel
theorem dX7_rule_60 : decode cX7_rule 60 = .ok (.goto 7, 3) := by decide +kernel
theorem dX7_rule_63 : decode cX7_rule 63 = .ok (.aload_n 0, 1) := by decide +kernel
theorem dX7_rule_64 : decode cX7_rule 64 = .ok (.getfield 29, 3) := by decide +kernel
theorem dX7_rule_67 : decode cX7_rule 67 = .ok (.istore_n 3, 1) := by decide +kernel
theorem dX7_rule_68 : decode cX7_rule 68 = .ok (.aload_n 0, 1) := by decide +kernel
theorem dX7_rule_69 : decode cX7_rule 69 = .ok (.iload_n 1, 1) := by decide +kernel
theorem dX7_rule_70 : decode cX7_rule 70 = .ok (.ifCond .ne 16, 3) := by decide +kernel
theorem dX7_rule_73 : decode cX7_rule 73 = .ok (.iload_n 2, 1) := by decide +kernel
theorem dX7_rule_74 : decode cX7_rule 74 = .ok (.iconst 1, 1) := by decide +kernel
theorem dX7_rule_75 : decode cX7_rule 75 = .ok (.if_icmp .ne 7, 3) := by decide +kernel
theorem dX7_rule_78 : decode cX7_rule 78 = .ok (.iconst 1, 1) := by decide +kernel
theorem dX7_rule_79 : decode cX7_rule 79 = .ok (.goto 11, 3) := by decide +kernel
theorem dX7_rule_82 : decode cX7_rule 82 = .ok (.iconst 0, 1) := by decide +kernel
theorem dX7_rule_83 : decode cX7_rule 83 = .ok (.goto 7, 3) := by decide +kernel
theorem dX7_rule_86 : decode cX7_rule 86 = .ok (.aload_n 0, 1) := by decide +kernel
theorem dX7_rule_87 : decode cX7_rule 87 = .ok (.getfield 92, 3) := by decide +kernel
theorem dX7_rule_90 : decode cX7_rule 90 = .ok (.putfield 92, 3) := by decide +kernel
theorem dX7_rule_93 : decode cX7_rule 93 = .ok (.aload_n 0, 1) := by decide +kernel
theorem dX7_rule_94 : decode cX7_rule 94 = .ok (.iload_n 1, 1) := by decide +kernel
theorem dX7_rule_95 : decode cX7_rule 95 = .ok (.iconst 1, 1) := by decide +kernel
theorem dX7_rule_96 : decode cX7_rule 96 = .ok (.if_icmp .ne 7, 3) := by decide +kernel
theorem dX7_rule_99 : decode cX7_rule 99 = .ok (.iload_n 2, 1) := by decide +kernel
theorem dX7_rule_100 : decode cX7_rule 100 = .ok (.goto 7, 3) := by decide +kernel
theorem dX7_rule_103 : decode cX7_rule 103 = .ok (.aload_n 0, 1) := by decide +kernel
theorem dX7_rule_104 : decode cX7_rule 104 = .ok (.getfield 29, 3) := by decide +kernel
theorem dX7_rule_107 : decode cX7_rule 107 = .ok (.putfield 29, 3) := by decide +kernel
theorem dX7_rule_110 : decode cX7_rule 110 = .ok (.iload_n 3, 1) := by decide +kernel
theorem dX7_rule_111 : decode cX7_rule 111 = .ok (.ireturn, 1) := by decide +kernel
theorem dX7_worthOf_0 : decode cX7_worthOf 0 = .ok (.iconst 0, 1) := by decide +kernel
theorem dX7_worthOf_1 : decode cX7_worthOf 1 = .ok (.istore_n 2, 1) := by decide +kernel
theorem dX7_worthOf_2 : decode cX7_worthOf 2 = .ok (.iconst 0, 1) := by decide +kernel
theorem dX7_worthOf_3 : decode cX7_worthOf 3 = .ok (.istore_n 3, 1) := by decide +kernel
theorem dX7_worthOf_4 : decode cX7_worthOf 4 = .ok (.iload_n 3, 1) := by decide +kernel
theorem dX7_worthOf_5 : decode cX7_worthOf 5 = .ok (.aload_n 0, 1) := by decide +kernel
theorem dX7_worthOf_6 : decode cX7_worthOf 6 = .ok (.getfield 7, 3) := by decide +kernel
theorem dX7_worthOf_9 : decode cX7_worthOf 9 = .ok (.if_icmp .ge 24, 3) := by decide +kernel
theorem dX7_worthOf_12 : decode cX7_worthOf 12 = .ok (.iload_n 2, 1) := by decide +kernel
theorem dX7_worthOf_13 : decode cX7_worthOf 13 = .ok (.iload_n 1, 1) := by decide +kernel
theorem dX7_worthOf_14 : decode cX7_worthOf 14 = .ok (.iload_n 3, 1) := by decide +kernel
theorem dX7_worthOf_15 : decode cX7_worthOf 15 = .ok (.ishr, 1) := by decide +kernel
theorem dX7_worthOf_16 : decode cX7_worthOf 16 = .ok (.iconst 1, 1) := by decide +kernel
theorem dX7_worthOf_17 : decode cX7_worthOf 17 = .ok (.iand, 1) := by decide +kernel
theorem dX7_worthOf_18 : decode cX7_worthOf 18 = .ok (.aload_n 0, 1) := by decide +kernel
theorem dX7_worthOf_19 : decode cX7_worthOf 19 = .ok (.getfield 20, 3) := by decide +kernel
theorem dX7_worthOf_22 : decode cX7_worthOf 22 = .ok (.iload_n 3, 1) := by decide +kernel
theorem dX7_worthOf_23 : decode cX7_worthOf 23 = .ok (.iaload, 1) := by decide +kernel
theorem dX7_worthOf_24 : decode cX7_worthOf 24 = .ok (.imul, 1) := by decide +kernel
theorem dX7_worthOf_25 : decode cX7_worthOf 25 = .ok (.iadd, 1) := by decide +kernel
theorem dX7_worthOf_26 : decode cX7_worthOf 26 = .ok (.istore_n 2, 1) := by decide +kernel
theorem dX7_worthOf_27 : decode cX7_worthOf 27 = .ok (.iinc 3 1, 3) := by decide +kernel
theorem dX7_worthOf_30 : decode cX7_worthOf 30 = .ok (.goto (-26), 3) := by decide +kernel
theorem dX7_worthOf_33 : decode cX7_worthOf 33 = .ok (.iload_n 2, 1) := by decide +kernel
theorem dX7_worthOf_34 : decode cX7_worthOf 34 = .ok (.ireturn, 1) := by decide +kernel
theorem dX7_priceOf_0 : decode cX7_priceOf 0 = .ok (.iconst 0, 1) := by decide +kernel
theorem dX7_priceOf_1 : decode cX7_priceOf 1 = .ok (.istore_n 2, 1) := by decide +kernel
theorem dX7_priceOf_2 : decode cX7_priceOf 2 = .ok (.iconst 0, 1) := by decide +kernel
theorem dX7_priceOf_3 : decode cX7_priceOf 3 = .ok (.istore_n 3, 1) := by decide +kernel
theorem dX7_priceOf_4 : decode cX7_priceOf 4 = .ok (.iload_n 3, 1) := by decide +kernel
theorem dX7_priceOf_5 : decode cX7_priceOf 5 = .ok (.aload_n 0, 1) := by decide +kernel
theorem dX7_priceOf_6 : decode cX7_priceOf 6 = .ok (.getfield 7, 3) := by decide +kernel
theorem dX7_priceOf_9 : decode cX7_priceOf 9 = .ok (.if_icmp .ge 24, 3) := by decide +kernel
theorem dX7_priceOf_12 : decode cX7_priceOf 12 = .ok (.iload_n 2, 1) := by decide +kernel
theorem dX7_priceOf_13 : decode cX7_priceOf 13 = .ok (.iload_n 1, 1) := by decide +kernel
theorem dX7_priceOf_14 : decode cX7_priceOf 14 = .ok (.iload_n 3, 1) := by decide +kernel
theorem dX7_priceOf_15 : decode cX7_priceOf 15 = .ok (.ishr, 1) := by decide +kernel
theorem dX7_priceOf_16 : decode cX7_priceOf 16 = .ok (.iconst 1, 1) := by decide +kernel
theorem dX7_priceOf_17 : decode cX7_priceOf 17 = .ok (.iand, 1) := by decide +kernel
theorem dX7_priceOf_18 : decode cX7_priceOf 18 = .ok (.aload_n 0, 1) := by decide +kernel
theorem dX7_priceOf_19 : decode cX7_priceOf 19 = .ok (.getfield 23, 3) := by decide +kernel
theorem dX7_priceOf_22 : decode cX7_priceOf 22 = .ok (.iload_n 3, 1) := by decide +kernel
theorem dX7_priceOf_23 : decode cX7_priceOf 23 = .ok (.iaload, 1) := by decide +kernel
theorem dX7_priceOf_24 : decode cX7_priceOf 24 = .ok (.imul, 1) := by decide +kernel
theorem dX7_priceOf_25 : decode cX7_priceOf 25 = .ok (.iadd, 1) := by decide +kernel
theorem dX7_priceOf_26 : decode cX7_priceOf 26 = .ok (.istore_n 2, 1) := by decide +kernel
theorem dX7_priceOf_27 : decode cX7_priceOf 27 = .ok (.iinc 3 1, 3) := by decide +kernel
theorem dX7_priceOf_30 : decode cX7_priceOf 30 = .ok (.goto (-26), 3) := by decide +kernel
theorem dX7_priceOf_33 : decode cX7_priceOf 33 = .ok (.iload_n 2, 1) := by decide +kernel
theorem dX7_priceOf_34 : decode cX7_priceOf 34 = .ok (.ireturn, 1) := by decide +kernel
set_option maxRecDepth 20000 in
theorem ggX7_count_X7_all : GoodIn wsX7_count wsX7_all := goodIn_r _ [9, 3, 15, 16, 17, 18, 19, 20, 21, 22, 23, 24, 25, 26, 27, 28, 29, 30, 31, 32, 33, 34, 35, 36, 37, 38, 39, 40, 41, 42, 43, 44, 45, 46, 47, 48] (by decide +kernel) (by decide +kernel)
set_option maxRecDepth 20000 in
theorem gX7_count_X7_all : GoodIn wsX7_count (wsV RX7 72 RX7 yX7_all wsX7_all) := goodIn_app (goodIn_of _ (by decide +kernel)) ggX7_count_X7_all
set_option maxRecDepth 20000 in
theorem ggX7_count_X7_worthOf : GoodIn wsX7_count wsX7_worthOf := goodIn_r _ [13, 3, 14, 15, 16, 17, 18, 19, 20, 21, 22, 23, 24, 25, 26, 27, 28, 29, 30, 31, 32, 33, 34, 35, 36, 37, 38, 39, 40, 41, 42, 43, 44, 45, 46, 47, 48] (by decide +kernel) (by decide +kernel)
set_option maxRecDepth 20000 in
theorem gX7_count_X7_worthOf : GoodIn wsX7_count (wsV RX7 99 RX7 yX7_worthOf wsX7_worthOf) := goodIn_app (goodIn_of _ (by decide +kernel)) ggX7_count_X7_worthOf
theorem dX7_count_0 : decode cX7_count 0 = .ok (.iconst 0, 1) := by decide +kernel
theorem dX7_count_1 : decode cX7_count 1 = .ok (.istore_n 2, 1) := by decide +kernel
theorem dX7_count_2 : decode cX7_count 2 = .ok (.iconst 1, 1) := by decide +kernel
theorem dX7_count_3 : decode cX7_count 3 = .ok (.istore_n 3, 1) := by decide +kernel
theorem dX7_count_4 : decode cX7_count 4 = .ok (.iload_n 3, 1) := by decide +kernel
theorem dX7_count_5 : decode cX7_count 5 = .ok (.bipush 20, 2) := by decide +kernel
theorem dX7_count_7 : decode cX7_count 7 = .ok (.if_icmp .gt 68, 3) := by decide +kernel
theorem dX7_count_10 : decode cX7_count 10 = .ok (.iconst 0, 1) := by decide +kernel
theorem dX7_count_11 : decode cX7_count 11 = .ok (.istore 4, 2) := by decide +kernel
theorem dX7_count_13 : decode cX7_count 13 = .ok (.iconst 0, 1) := by decide +kernel
theorem dX7_count_14 : decode cX7_count 14 = .ok (.istore 5, 2) := by decide +kernel
theorem dX7_count_16 : decode cX7_count 16 = .ok (.iload 5, 2) := by decide +kernel
theorem dX7_count_18 : decode cX7_count 18 = .ok (.aload_n 0, 1) := by decide +kernel
theorem dX7_count_19 : decode cX7_count 19 = .ok (.getfield 96, 3) := by decide +kernel
theorem dX7_count_22 : decode cX7_count 22 = .ok (.if_icmp .ge 34, 3) := by decide +kernel
theorem dX7_count_25 : decode cX7_count 25 = .ok (.iload 4, 2) := by decide +kernel
theorem dX7_count_27 : decode cX7_count 27 = .ok (.aload_n 0, 1) := by decide +kernel
theorem dX7_count_28 : decode cX7_count 28 = .ok (.getfield 35, 3) := by decide +kernel
theorem dX7_count_31 : decode cX7_count 31 = .ok (.iconst 3, 1) := by decide +kernel
theorem dX7_count_32 : decode cX7_count 32 = .ok (.iload 5, 2) := by decide +kernel
theorem dX7_count_34 : decode cX7_count 34 = .ok (.imul, 1) := by decide +kernel
theorem dX7_count_35 : decode cX7_count 35 = .ok (.iconst 2, 1) := by decide +kernel
theorem dX7_count_36 : decode cX7_count 36 = .ok (.iadd, 1) := by decide +kernel
theorem dX7_count_37 : decode cX7_count 37 = .ok (.iaload, 1) := by decide +kernel
theorem dX7_count_38 : decode cX7_count 38 = .ok (.iload_n 3, 1) := by decide +kernel
theorem dX7_count_39 : decode cX7_count 39 = .ok (.if_icmp .ne 7, 3) := by decide +kernel
theorem dX7_count_42 : decode cX7_count 42 = .ok (.iconst 1, 1) := by decide +kernel
theorem dX7_count_43 : decode cX7_count 43 = .ok (.goto 4, 3) := by decide +kernel
theorem dX7_count_46 : decode cX7_count 46 = .ok (.iconst 0, 1) := by decide +kernel
theorem dX7_count_47 : decode cX7_count 47 = .ok (.iadd, 1) := by decide +kernel
theorem dX7_count_48 : decode cX7_count 48 = .ok (.istore 4, 2) := by decide +kernel
theorem dX7_count_50 : decode cX7_count 50 = .ok (.iinc 5 1, 3) := by decide +kernel
theorem dX7_count_53 : decode cX7_count 53 = .ok (.goto (-37), 3) := by decide +kernel
theorem dX7_count_56 : decode cX7_count 56 = .ok (.iload 4, 2) := by decide +kernel
theorem dX7_count_58 : decode cX7_count 58 = .ok (.iload_n 2, 1) := by decide +kernel
theorem dX7_count_59 : decode cX7_count 59 = .ok (.if_icmp .le 8, 3) := by decide +kernel
theorem dX7_count_62 : decode cX7_count 62 = .ok (.iload 4, 2) := by decide +kernel
theorem dX7_count_64 : decode cX7_count 64 = .ok (.goto 4, 3) := by decide +kernel
theorem dX7_count_67 : decode cX7_count 67 = .ok (.iload_n 2, 1) := by decide +kernel
theorem dX7_count_68 : decode cX7_count 68 = .ok (.istore_n 2, 1) := by decide +kernel
theorem dX7_count_69 : decode cX7_count 69 = .ok (.iinc 3 1, 3) := by decide +kernel
theorem dX7_count_72 : decode cX7_count 72 = .ok (.goto (-68), 3) := by decide +kernel
theorem dX7_count_75 : decode cX7_count 75 = .ok (.iload_n 1, 1) := by decide +kernel
theorem dX7_count_76 : decode cX7_count 76 = .ok (.tableswitch 62 0 4 #[36, 41, 46, 55, 60], 36) := by decide +kernel
theorem dX7_count_112 : decode cX7_count 112 = .ok (.aload_n 0, 1) := by decide +kernel
theorem dX7_count_113 : decode cX7_count 113 = .ok (.getfield 7, 3) := by decide +kernel
theorem dX7_count_116 : decode cX7_count 116 = .ok (.ireturn, 1) := by decide +kernel
theorem dX7_count_117 : decode cX7_count 117 = .ok (.aload_n 0, 1) := by decide +kernel
theorem dX7_count_118 : decode cX7_count 118 = .ok (.getfield 65, 3) := by decide +kernel
theorem dX7_count_121 : decode cX7_count 121 = .ok (.ireturn, 1) := by decide +kernel
theorem dX7_count_122 : decode cX7_count 122 = .ok (.aload_n 0, 1) := by decide +kernel
theorem dX7_count_123 : decode cX7_count 123 = .ok (.aload_n 0, 1) := by decide +kernel
theorem dX7_count_124 : decode cX7_count 124 = .ok (.invokevirtual 72, 3) := by decide +kernel
theorem dX7_count_127 : decode cX7_count 127 = .ok (.invokevirtual 99, 3) := by decide +kernel
theorem dX7_count_130 : decode cX7_count 130 = .ok (.ireturn, 1) := by decide +kernel
theorem dX7_count_131 : decode cX7_count 131 = .ok (.aload_n 0, 1) := by decide +kernel
theorem dX7_count_132 : decode cX7_count 132 = .ok (.getfield 96, 3) := by decide +kernel
theorem dX7_count_135 : decode cX7_count 135 = .ok (.ireturn, 1) := by decide +kernel
theorem dX7_count_136 : decode cX7_count 136 = .ok (.iload_n 2, 1) := by decide +kernel
theorem dX7_count_137 : decode cX7_count 137 = .ok (.ireturn, 1) := by decide +kernel
theorem dX7_count_138 : decode cX7_count 138 = .ok (.sipush (-1002), 3) := by decide +kernel
theorem dX7_count_141 : decode cX7_count 141 = .ok (.ireturn, 1) := by decide +kernel
theorem dX7_light_0 : decode cX7_light 0 = .ok (.aload_n 0, 1) := by decide +kernel
theorem dX7_light_1 : decode cX7_light 1 = .ok (.iload_n 1, 1) := by decide +kernel
theorem dX7_light_2 : decode cX7_light 2 = .ok (.putfield 103, 3) := by decide +kernel
theorem dX7_light_5 : decode cX7_light 5 = .ok (.aload_n 0, 1) := by decide +kernel
theorem dX7_light_6 : decode cX7_light 6 = .ok (.iconst 0, 1) := by decide +kernel
theorem dX7_light_7 : decode cX7_light 7 = .ok (.putfield 106, 3) := by decide +kernel
theorem dX7_light_10 : decode cX7_light 10 = .ok (.aload_n 0, 1) := by decide +kernel
theorem dX7_light_11 : decode cX7_light 11 = .ok (.iconst 0, 1) := by decide +kernel
theorem dX7_light_12 : decode cX7_light 12 = .ok (.putfield 109, 3) := by decide +kernel
theorem dX7_light_15 : decode cX7_light 15 = .ok (.aload_n 0, 1) := by decide +kernel
theorem dX7_light_16 : decode cX7_light 16 = .ok (.iconst 0, 1) := by decide +kernel
theorem dX7_light_17 : decode cX7_light 17 = .ok (.putfield 112, 3) := by decide +kernel
theorem dX7_light_20 : decode cX7_light 20 = .ok (.return_, 1) := by decide +kernel
theorem dX7_fill_0 : decode cX7_fill 0 = .ok (.aload_n 0, 1) := by decide +kernel
theorem dX7_fill_1 : decode cX7_fill 1 = .ok (.aload_n 0, 1) := by decide +kernel
theorem dX7_fill_2 : decode cX7_fill 2 = .ok (.getfield 92, 3) := by decide +kernel
theorem dX7_fill_5 : decode cX7_fill 5 = .ok (.ifCond .eq 10, 3) := by decide +kernel
theorem dX7_fill_8 : decode cX7_fill 8 = .ok (.aload_n 0, 1) := by decide +kernel
theorem dX7_fill_9 : decode cX7_fill 9 = .ok (.getfield 109, 3) := by decide +kernel
theorem dX7_fill_12 : decode cX7_fill 12 = .ok (.goto 4, 3) := by decide +kernel
theorem dX7_fill_15 : decode cX7_fill 15 = .ok (.iconst 0, 1) := by decide +kernel
theorem dX7_fill_16 : decode cX7_fill 16 = .ok (.aload_n 0, 1) := by decide +kernel
theorem dX7_fill_17 : decode cX7_fill 17 = .ok (.getfield 26, 3) := by decide +kernel
theorem dX7_fill_20 : decode cX7_fill 20 = .ok (.iload_n 1, 1) := by decide +kernel
theorem dX7_fill_21 : decode cX7_fill 21 = .ok (.bipush 8, 2) := by decide +kernel
theorem dX7_fill_23 : decode cX7_fill 23 = .ok (.if_icmp .ge 7, 3) := by decide +kernel
theorem dX7_fill_26 : decode cX7_fill 26 = .ok (.iload_n 1, 1) := by decide +kernel
theorem dX7_fill_27 : decode cX7_fill 27 = .ok (.goto 5, 3) := by decide +kernel
theorem dX7_fill_30 : decode cX7_fill 30 = .ok (.bipush 8, 2) := by decide +kernel
theorem dX7_fill_32 : decode cX7_fill 32 = .ok (.iaload, 1) := by decide +kernel
theorem dX7_fill_33 : decode cX7_fill 33 = .ok (.iadd, 1) := by decide +kernel
theorem dX7_fill_34 : decode cX7_fill 34 = .ok (.putfield 109, 3) := by decide +kernel
theorem dX7_fill_37 : decode cX7_fill 37 = .ok (.return_, 1) := by decide +kernel
set_option maxRecDepth 20000 in
theorem ggX7_isLawful_X7_all : GoodIn wsX7_isLawful wsX7_all := goodIn_r _ [8, 9, 15, 16, 17, 18, 19, 20, 21, 22, 23, 24, 25, 26, 27, 28, 29, 30, 31, 32, 33, 34, 35, 36, 37, 38, 39, 40, 41, 42, 43, 44, 45, 46, 47, 48] (by decide +kernel) (by decide +kernel)
set_option maxRecDepth 20000 in
theorem gX7_isLawful_X7_all : GoodIn wsX7_isLawful (wsV RX7 72 RX7 yX7_all wsX7_all) := goodIn_app (goodIn_of _ (by decide +kernel)) ggX7_isLawful_X7_all
set_option maxRecDepth 20000 in
theorem ggX7_isLawful_X7_priceOf : GoodIn wsX7_isLawful wsX7_priceOf := goodIn_r _ [13, 9, 14, 15, 16, 17, 18, 19, 20, 21, 22, 23, 24, 25, 26, 27, 28, 29, 30, 31, 32, 33, 34, 35, 36, 37, 38, 39, 40, 41, 42, 43, 44, 45, 46, 47, 48] (by decide +kernel) (by decide +kernel)
set_option maxRecDepth 20000 in
theorem gX7_isLawful_X7_priceOf : GoodIn wsX7_isLawful (wsV RX7 115 RX7 yX7_priceOf wsX7_priceOf) := goodIn_app (goodIn_of _ (by decide +kernel)) ggX7_isLawful_X7_priceOf
theorem dX7_isLawful_0 : decode cX7_isLawful 0 = .ok (.iload_n 1, 1) := by decide +kernel
theorem dX7_isLawful_1 : decode cX7_isLawful 1 = .ok (.aload_n 0, 1) := by decide +kernel
theorem dX7_isLawful_2 : decode cX7_isLawful 2 = .ok (.invokevirtual 72, 3) := by decide +kernel
theorem dX7_isLawful_5 : decode cX7_isLawful 5 = .ok (.if_icmp .gt 33, 3) := by decide +kernel
theorem dX7_isLawful_8 : decode cX7_isLawful 8 = .ok (.iload_n 1, 1) := by decide +kernel
theorem dX7_isLawful_9 : decode cX7_isLawful 9 = .ok (.aload_n 0, 1) := by decide +kernel
theorem dX7_isLawful_10 : decode cX7_isLawful 10 = .ok (.getfield 103, 3) := by decide +kernel
theorem dX7_isLawful_13 : decode cX7_isLawful 13 = .ok (.aload_n 0, 1) := by decide +kernel
theorem dX7_isLawful_14 : decode cX7_isLawful 14 = .ok (.getfield 106, 3) := by decide +kernel
theorem dX7_isLawful_17 : decode cX7_isLawful 17 = .ok (.ior, 1) := by decide +kernel
theorem dX7_isLawful_18 : decode cX7_isLawful 18 = .ok (.iand, 1) := by decide +kernel
theorem dX7_isLawful_19 : decode cX7_isLawful 19 = .ok (.ifCond .ne 19, 3) := by decide +kernel
theorem dX7_isLawful_22 : decode cX7_isLawful 22 = .ok (.aload_n 0, 1) := by decide +kernel
theorem dX7_isLawful_23 : decode cX7_isLawful 23 = .ok (.iload_n 1, 1) := by decide +kernel
theorem dX7_isLawful_24 : decode cX7_isLawful 24 = .ok (.invokevirtual 115, 3) := by decide +kernel
theorem dX7_isLawful_27 : decode cX7_isLawful 27 = .ok (.aload_n 0, 1) := by decide +kernel
theorem dX7_isLawful_28 : decode cX7_isLawful 28 = .ok (.getfield 109, 3) := by decide +kernel
theorem dX7_isLawful_31 : decode cX7_isLawful 31 = .ok (.if_icmp .gt 7, 3) := by decide +kernel
theorem dX7_isLawful_34 : decode cX7_isLawful 34 = .ok (.iconst 1, 1) := by decide +kernel
theorem dX7_isLawful_35 : decode cX7_isLawful 35 = .ok (.goto 4, 3) := by decide +kernel
theorem dX7_isLawful_38 : decode cX7_isLawful 38 = .ok (.iconst 0, 1) := by decide +kernel
theorem dX7_isLawful_39 : decode cX7_isLawful 39 = .ok (.ireturn, 1) := by decide +kernel
set_option maxRecDepth 20000 in
theorem ggX7_guard_X7_priceOf : GoodIn wsX7_guard wsX7_priceOf := goodIn_r _ [8, 9, 10, 11, 12, 13, 14, 15, 16, 17, 18, 19, 20, 21, 22, 23, 24, 25, 26, 27, 28, 29, 30, 31, 32, 33, 34, 35, 36, 37, 38, 39, 40, 41, 42, 43, 44] (by decide +kernel) (by decide +kernel)
set_option maxRecDepth 20000 in
theorem gX7_guard_X7_priceOf : GoodIn wsX7_guard (wsV RX7 115 RX7 yX7_priceOf wsX7_priceOf) := goodIn_app (goodIn_of _ (by decide +kernel)) ggX7_guard_X7_priceOf
theorem dX7_guard_0 : decode cX7_guard 0 = .ok (.aload_n 0, 1) := by decide +kernel
theorem dX7_guard_1 : decode cX7_guard 1 = .ok (.dup, 1) := by decide +kernel
theorem dX7_guard_2 : decode cX7_guard 2 = .ok (.getfield 106, 3) := by decide +kernel
theorem dX7_guard_5 : decode cX7_guard 5 = .ok (.iload_n 1, 1) := by decide +kernel
theorem dX7_guard_6 : decode cX7_guard 6 = .ok (.ior, 1) := by decide +kernel
theorem dX7_guard_7 : decode cX7_guard 7 = .ok (.putfield 106, 3) := by decide +kernel
theorem dX7_guard_10 : decode cX7_guard 10 = .ok (.aload_n 0, 1) := by decide +kernel
theorem dX7_guard_11 : decode cX7_guard 11 = .ok (.dup, 1) := by decide +kernel
theorem dX7_guard_12 : decode cX7_guard 12 = .ok (.getfield 109, 3) := by decide +kernel
theorem dX7_guard_15 : decode cX7_guard 15 = .ok (.aload_n 0, 1) := by decide +kernel
theorem dX7_guard_16 : decode cX7_guard 16 = .ok (.iload_n 1, 1) := by decide +kernel
theorem dX7_guard_17 : decode cX7_guard 17 = .ok (.invokevirtual 115, 3) := by decide +kernel
theorem dX7_guard_20 : decode cX7_guard 20 = .ok (.isub, 1) := by decide +kernel
theorem dX7_guard_21 : decode cX7_guard 21 = .ok (.putfield 109, 3) := by decide +kernel
theorem dX7_guard_24 : decode cX7_guard 24 = .ok (.aload_n 0, 1) := by decide +kernel
theorem dX7_guard_25 : decode cX7_guard 25 = .ok (.dup, 1) := by decide +kernel
theorem dX7_guard_26 : decode cX7_guard 26 = .ok (.getfield 112, 3) := by decide +kernel
theorem dX7_guard_29 : decode cX7_guard 29 = .ok (.aload_n 0, 1) := by decide +kernel
theorem dX7_guard_30 : decode cX7_guard 30 = .ok (.iload_n 1, 1) := by decide +kernel
theorem dX7_guard_31 : decode cX7_guard 31 = .ok (.invokevirtual 115, 3) := by decide +kernel
theorem dX7_guard_34 : decode cX7_guard 34 = .ok (.iadd, 1) := by decide +kernel
theorem dX7_guard_35 : decode cX7_guard 35 = .ok (.putfield 112, 3) := by decide +kernel
theorem dX7_guard_38 : decode cX7_guard 38 = .ok (.return_, 1) := by decide +kernel
theorem dX7_near_0 : decode cX7_near 0 = .ok (.iconst 0, 1) := by decide +kernel
theorem dX7_near_1 : decode cX7_near 1 = .ok (.istore_n 1, 1) := by decide +kernel
theorem dX7_near_2 : decode cX7_near 2 = .ok (.iconst 0, 1) := by decide +kernel
theorem dX7_near_3 : decode cX7_near 3 = .ok (.istore_n 2, 1) := by decide +kernel
theorem dX7_near_4 : decode cX7_near 4 = .ok (.iload_n 2, 1) := by decide +kernel
theorem dX7_near_5 : decode cX7_near 5 = .ok (.aload_n 0, 1) := by decide +kernel
theorem dX7_near_6 : decode cX7_near 6 = .ok (.getfield 7, 3) := by decide +kernel
theorem dX7_near_9 : decode cX7_near 9 = .ok (.if_icmp .ge 34, 3) := by decide +kernel
theorem dX7_near_12 : decode cX7_near 12 = .ok (.iload_n 1, 1) := by decide +kernel
theorem dX7_near_13 : decode cX7_near 13 = .ok (.aload_n 0, 1) := by decide +kernel
theorem dX7_near_14 : decode cX7_near 14 = .ok (.getfield 103, 3) := by decide +kernel
theorem dX7_near_17 : decode cX7_near 17 = .ok (.iload_n 2, 1) := by decide +kernel
theorem dX7_near_18 : decode cX7_near 18 = .ok (.ishr, 1) := by decide +kernel
theorem dX7_near_19 : decode cX7_near 19 = .ok (.iconst 1, 1) := by decide +kernel
theorem dX7_near_20 : decode cX7_near 20 = .ok (.iand, 1) := by decide +kernel
theorem dX7_near_21 : decode cX7_near 21 = .ok (.iconst 1, 1) := by decide +kernel
theorem dX7_near_22 : decode cX7_near 22 = .ok (.if_icmp .ne 12, 3) := by decide +kernel
theorem dX7_near_25 : decode cX7_near 25 = .ok (.aload_n 0, 1) := by decide +kernel
theorem dX7_near_26 : decode cX7_near 26 = .ok (.getfield 17, 3) := by decide +kernel
theorem dX7_near_29 : decode cX7_near 29 = .ok (.iload_n 2, 1) := by decide +kernel
theorem dX7_near_30 : decode cX7_near 30 = .ok (.iaload, 1) := by decide +kernel
theorem dX7_near_31 : decode cX7_near 31 = .ok (.goto 4, 3) := by decide +kernel
theorem dX7_near_34 : decode cX7_near 34 = .ok (.iconst 0, 1) := by decide +kernel
theorem dX7_near_35 : decode cX7_near 35 = .ok (.ior, 1) := by decide +kernel
theorem dX7_near_36 : decode cX7_near 36 = .ok (.istore_n 1, 1) := by decide +kernel
theorem dX7_near_37 : decode cX7_near 37 = .ok (.iinc 2 1, 3) := by decide +kernel
theorem dX7_near_40 : decode cX7_near 40 = .ok (.goto (-36), 3) := by decide +kernel
theorem dX7_near_43 : decode cX7_near 43 = .ok (.iload_n 1, 1) := by decide +kernel
theorem dX7_near_44 : decode cX7_near 44 = .ok (.aload_n 0, 1) := by decide +kernel
theorem dX7_near_45 : decode cX7_near 45 = .ok (.getfield 103, 3) := by decide +kernel
theorem dX7_near_48 : decode cX7_near 48 = .ok (.iconst (-1), 1) := by decide +kernel
theorem dX7_near_49 : decode cX7_near 49 = .ok (.ixor, 1) := by decide +kernel
theorem dX7_near_50 : decode cX7_near 50 = .ok (.iand, 1) := by decide +kernel
theorem dX7_near_51 : decode cX7_near 51 = .ok (.aload_n 0, 1) := by decide +kernel
theorem dX7_near_52 : decode cX7_near 52 = .ok (.getfield 106, 3) := by decide +kernel
theorem dX7_near_55 : decode cX7_near 55 = .ok (.iconst (-1), 1) := by decide +kernel
theorem dX7_near_56 : decode cX7_near 56 = .ok (.ixor, 1) := by decide +kernel
theorem dX7_near_57 : decode cX7_near 57 = .ok (.iand, 1) := by decide +kernel
theorem dX7_near_58 : decode cX7_near 58 = .ok (.ireturn, 1) := by decide +kernel
set_option maxRecDepth 20000 in
theorem ggX7_spreads_X7_near : GoodIn wsX7_spreads wsX7_near := goodIn_r _ [6, 7, 1, 8, 9, 10, 11, 12, 13, 14, 15, 16, 17, 18, 19, 20, 21, 22, 23, 24, 25, 26, 27, 28, 29, 30, 31, 32, 33, 34, 35, 36, 37, 38, 39, 40, 41, 42, 43] (by decide +kernel) (by decide +kernel)
set_option maxRecDepth 20000 in
theorem gX7_spreads_X7_near : GoodIn wsX7_spreads (wsV RX7 118 RX7 yX7_near wsX7_near) := goodIn_app (goodIn_of _ (by decide +kernel)) ggX7_spreads_X7_near
theorem dX7_spreads_0 : decode cX7_spreads 0 = .ok (.aload_n 0, 1) := by decide +kernel
theorem dX7_spreads_1 : decode cX7_spreads 1 = .ok (.invokevirtual 118, 3) := by decide +kernel
theorem dX7_spreads_4 : decode cX7_spreads 4 = .ok (.istore_n 1, 1) := by decide +kernel
theorem dX7_spreads_5 : decode cX7_spreads 5 = .ok (.aload_n 0, 1) := by decide +kernel
theorem dX7_spreads_6 : decode cX7_spreads 6 = .ok (.dup, 1) := by decide +kernel
theorem dX7_spreads_7 : decode cX7_spreads 7 = .ok (.getfield 103, 3) := by decide +kernel
theorem dX7_spreads_10 : decode cX7_spreads 10 = .ok (.iload_n 1, 1) := by decide +kernel
theorem dX7_spreads_11 : decode cX7_spreads 11 = .ok (.ior, 1) := by decide +kernel
theorem dX7_spreads_12 : decode cX7_spreads 12 = .ok (.putfield 103, 3) := by decide +kernel
theorem dX7_spreads_15 : decode cX7_spreads 15 = .ok (.iload_n 1, 1) := by decide +kernel
theorem dX7_spreads_16 : decode cX7_spreads 16 = .ok (.ifCond .eq 7, 3) := by decide +kernel
theorem dX7_spreads_19 : decode cX7_spreads 19 = .ok (.iconst 1, 1) := by decide +kernel
theorem dX7_spreads_20 : decode cX7_spreads 20 = .ok (.goto 4, 3) := by decide +kernel
theorem dX7_spreads_23 : decode cX7_spreads 23 = .ok (.iconst 0, 1) := by decide +kernel
theorem dX7_spreads_24 : decode cX7_spreads 24 = .ok (.ireturn, 1) := by decide +kernel
set_option maxRecDepth 20000 in
theorem ggX7_saved_X7_all : GoodIn wsX7_saved wsX7_all := goodIn_r _ [6, 7, 13, 14, 15, 16, 17, 18, 19, 20, 21, 22, 23, 24, 25, 26, 27, 28, 29, 30, 31, 32, 33, 34, 35, 36, 37, 38, 39, 40, 41, 42, 43, 44, 45, 46] (by decide +kernel) (by decide +kernel)
set_option maxRecDepth 20000 in
theorem gX7_saved_X7_all : GoodIn wsX7_saved (wsV RX7 72 RX7 yX7_all wsX7_all) := goodIn_app (goodIn_of _ (by decide +kernel)) ggX7_saved_X7_all
set_option maxRecDepth 20000 in
theorem ggX7_saved_X7_worthOf : GoodIn wsX7_saved wsX7_worthOf := goodIn_r _ [11, 7, 12, 13, 14, 15, 16, 17, 18, 19, 20, 21, 22, 23, 24, 25, 26, 27, 28, 29, 30, 31, 32, 33, 34, 35, 36, 37, 38, 39, 40, 41, 42, 43, 44, 45, 46] (by decide +kernel) (by decide +kernel)
set_option maxRecDepth 20000 in
theorem gX7_saved_X7_worthOf : GoodIn wsX7_saved (wsV RX7 99 RX7 yX7_worthOf wsX7_worthOf) := goodIn_app (goodIn_of _ (by decide +kernel)) ggX7_saved_X7_worthOf
theorem dX7_saved_0 : decode cX7_saved 0 = .ok (.aload_n 0, 1) := by decide +kernel
theorem dX7_saved_1 : decode cX7_saved 1 = .ok (.aload_n 0, 1) := by decide +kernel
theorem dX7_saved_2 : decode cX7_saved 2 = .ok (.invokevirtual 72, 3) := by decide +kernel
theorem dX7_saved_5 : decode cX7_saved 5 = .ok (.aload_n 0, 1) := by decide +kernel
theorem dX7_saved_6 : decode cX7_saved 6 = .ok (.getfield 103, 3) := by decide +kernel
theorem dX7_saved_9 : decode cX7_saved 9 = .ok (.iconst (-1), 1) := by decide +kernel
theorem dX7_saved_10 : decode cX7_saved 10 = .ok (.ixor, 1) := by decide +kernel
theorem dX7_saved_11 : decode cX7_saved 11 = .ok (.iand, 1) := by decide +kernel
theorem dX7_saved_12 : decode cX7_saved 12 = .ok (.invokevirtual 99, 3) := by decide +kernel
theorem dX7_saved_15 : decode cX7_saved 15 = .ok (.ireturn, 1) := by decide +kernel
set_option maxRecDepth 20000 in
theorem ggX7_plan_X7_in : GoodIn wsX7_plan wsX7_in := goodIn_r _ [7] (by decide +kernel) (by decide +kernel)
set_option maxRecDepth 20000 in
theorem gX7_plan_X7_in : GoodIn wsX7_plan (va_wsS RX7 68 yX7_in wsX7_in) := goodIn_app (goodIn_of _ (by decide +kernel)) ggX7_plan_X7_in
theorem dX7_plan_0 : decode cX7_plan 0 = .ok (.iload_n 1, 1) := by decide +kernel
theorem dX7_plan_1 : decode cX7_plan 1 = .ok (.i2l, 1) := by decide +kernel
theorem dX7_plan_2 : decode cX7_plan 2 = .ok (.lconst 1, 1) := by decide +kernel
theorem dX7_plan_3 : decode cX7_plan 3 = .ok (.ldc2_w 84, 3) := by decide +kernel
theorem dX7_plan_6 : decode cX7_plan 6 = .ok (.invokestatic 68, 3) := by decide +kernel
theorem dX7_plan_9 : decode cX7_plan 9 = .ok (.ifCond .eq 15, 3) := by decide +kernel
theorem dX7_plan_12 : decode cX7_plan 12 = .ok (.iload_n 2, 1) := by decide +kernel
theorem dX7_plan_13 : decode cX7_plan 13 = .ok (.i2l, 1) := by decide +kernel
theorem dX7_plan_14 : decode cX7_plan 14 = .ok (.lconst 0, 1) := by decide +kernel
theorem dX7_plan_15 : decode cX7_plan 15 = .ok (.ldc2_w 121, 3) := by decide +kernel
theorem dX7_plan_18 : decode cX7_plan 18 = .ok (.invokestatic 68, 3) := by decide +kernel
theorem dX7_plan_21 : decode cX7_plan 21 = .ok (.ifCond .ne 7, 3) := by decide +kernel
theorem dX7_plan_24 : decode cX7_plan 24 = .ok (.sipush (-1002), 3) := by decide +kernel
theorem dX7_plan_27 : decode cX7_plan 27 = .ok (.ireturn, 1) := by decide +kernel
theorem dX7_plan_28 : decode cX7_plan 28 = .ok (.aload_n 0, 1) := by decide +kernel
theorem dX7_plan_29 : decode cX7_plan 29 = .ok (.getfield 32, 3) := by decide +kernel
theorem dX7_plan_32 : decode cX7_plan 32 = .ok (.iload_n 1, 1) := by decide +kernel
theorem dX7_plan_33 : decode cX7_plan 33 = .ok (.iaload, 1) := by decide +kernel
theorem dX7_plan_34 : decode cX7_plan 34 = .ok (.istore_n 3, 1) := by decide +kernel
theorem dX7_plan_35 : decode cX7_plan 35 = .ok (.aload_n 0, 1) := by decide +kernel
theorem dX7_plan_36 : decode cX7_plan 36 = .ok (.getfield 32, 3) := by decide +kernel
theorem dX7_plan_39 : decode cX7_plan 39 = .ok (.iload_n 1, 1) := by decide +kernel
theorem dX7_plan_40 : decode cX7_plan 40 = .ok (.iload_n 2, 1) := by decide +kernel
theorem dX7_plan_41 : decode cX7_plan 41 = .ok (.iastore, 1) := by decide +kernel
theorem dX7_plan_42 : decode cX7_plan 42 = .ok (.iload_n 3, 1) := by decide +kernel
theorem dX7_plan_43 : decode cX7_plan 43 = .ok (.ireturn, 1) := by decide +kernel
set_option maxRecDepth 20000 in
theorem ggX7_playTo_X7_light : GoodIn wsX7_playTo wsX7_light := goodIn_r _ [8, 9, 10, 11, 12, 46, 47, 48, 49, 50, 51, 52, 53, 54, 55, 56, 57, 58, 59, 60, 61, 62, 63, 64, 65, 66, 67, 68, 69, 70, 71, 72, 73, 74, 75, 76, 77, 78, 79] (by decide +kernel) (by decide +kernel)
set_option maxRecDepth 20000 in
theorem gX7_playTo_X7_light : GoodIn wsX7_playTo (wsV RX7 123 RX7 yX7_light wsX7_light) := goodIn_app (goodIn_of _ (by decide +kernel)) ggX7_playTo_X7_light
set_option maxRecDepth 20000 in
theorem ggX7_playTo_X7_fill : GoodIn wsX7_playTo wsX7_fill := goodIn_r _ [16, 17, 11, 18, 46, 47, 48, 49, 50, 51, 52, 53, 54, 55, 56, 57, 58, 59, 60, 61, 62, 63, 64, 65, 66, 67, 68, 69, 70, 71, 72, 73, 74, 75, 76, 77, 78, 79] (by decide +kernel) (by decide +kernel)
set_option maxRecDepth 20000 in
theorem gX7_playTo_X7_fill : GoodIn wsX7_playTo (wsV RX7 133 RX7 yX7_fill wsX7_fill) := goodIn_app (goodIn_of _ (by decide +kernel)) ggX7_playTo_X7_fill
set_option maxRecDepth 20000 in
theorem ggX7_playTo_X7_isLawful : GoodIn wsX7_playTo wsX7_isLawful := goodIn_r _ [22, 9, 10, 11, 23, 24, 25, 7, 26, 27, 28, 29, 30, 31, 32, 46, 47, 48, 49, 50, 51, 52, 53, 54, 55, 56, 57, 58, 59, 60, 61, 62, 63, 64, 65, 66, 67, 68, 69, 70, 71, 72, 73, 74, 75, 76, 77, 78, 79] (by decide +kernel) (by decide +kernel)
set_option maxRecDepth 20000 in
theorem gX7_playTo_X7_isLawful : GoodIn wsX7_playTo (wsV RX7 136 RX7 yX7_isLawful wsX7_isLawful) := goodIn_app (goodIn_of _ (by decide +kernel)) ggX7_playTo_X7_isLawful
set_option maxRecDepth 20000 in
theorem ggX7_playTo_X7_guard : GoodIn wsX7_playTo wsX7_guard := goodIn_r _ [36, 10, 11, 12, 28, 29, 30, 7, 31, 27, 32, 46, 47, 48, 49, 50, 51, 52, 53, 54, 55, 56, 57, 58, 59, 60, 61, 62, 63, 64, 65, 66, 67, 68, 69, 70, 71, 72, 73, 74, 75, 76, 77, 78, 79] (by decide +kernel) (by decide +kernel)
set_option maxRecDepth 20000 in
theorem gX7_playTo_X7_guard : GoodIn wsX7_playTo (wsV RX7 139 RX7 yX7_guard wsX7_guard) := goodIn_app (goodIn_of _ (by decide +kernel)) ggX7_playTo_X7_guard
set_option maxRecDepth 20000 in
theorem ggX7_playTo_X7_spreads : GoodIn wsX7_playTo wsX7_spreads := goodIn_r _ [40, 9, 41, 42, 43, 7, 44, 27, 45, 10, 46, 47, 48, 49, 50, 51, 52, 53, 54, 55, 56, 57, 58, 59, 60, 61, 62, 63, 64, 65, 66, 67, 68, 69, 70, 71, 72, 73, 74, 75, 76, 77, 78, 79] (by decide +kernel) (by decide +kernel)
set_option maxRecDepth 20000 in
theorem gX7_playTo_X7_spreads : GoodIn wsX7_playTo (wsV RX7 142 RX7 yX7_spreads wsX7_spreads) := goodIn_app (goodIn_of _ (by decide +kernel)) ggX7_playTo_X7_spreads
theorem dX7_playTo_0 : decode cX7_playTo 0 = .ok (.aload_n 0, 1) := by decide +kernel
theorem dX7_playTo_1 : decode cX7_playTo 1 = .ok (.iload_n 1, 1) := by decide +kernel
theorem dX7_playTo_2 : decode cX7_playTo 2 = .ok (.invokevirtual 123, 3) := by decide +kernel
theorem dX7_playTo_5 : decode cX7_playTo 5 = .ok (.aload_n 0, 1) := by decide +kernel
theorem dX7_playTo_6 : decode cX7_playTo 6 = .ok (.iconst 0, 1) := by decide +kernel
theorem dX7_playTo_7 : decode cX7_playTo 7 = .ok (.putfield 127, 3) := by decide +kernel
theorem dX7_playTo_10 : decode cX7_playTo 10 = .ok (.aload_n 0, 1) := by decide +kernel
theorem dX7_playTo_11 : decode cX7_playTo 11 = .ok (.iconst 0, 1) := by decide +kernel
theorem dX7_playTo_12 : decode cX7_playTo 12 = .ok (.putfield 130, 3) := by decide +kernel
theorem dX7_playTo_15 : decode cX7_playTo 15 = .ok (.iconst 1, 1) := by decide +kernel
theorem dX7_playTo_16 : decode cX7_playTo 16 = .ok (.istore_n 3, 1) := by decide +kernel
theorem dX7_playTo_17 : decode cX7_playTo 17 = .ok (.iload_n 3, 1) := by decide +kernel
theorem dX7_playTo_18 : decode cX7_playTo 18 = .ok (.iload_n 2, 1) := by decide +kernel
theorem dX7_playTo_19 : decode cX7_playTo 19 = .ok (.if_icmp .gt 94, 3) := by decide +kernel
theorem dX7_playTo_22 : decode cX7_playTo 22 = .ok (.aload_n 0, 1) := by decide +kernel
theorem dX7_playTo_23 : decode cX7_playTo 23 = .ok (.getfield 130, 3) := by decide +kernel
theorem dX7_playTo_26 : decode cX7_playTo 26 = .ok (.ifCond .ne 87, 3) := by decide +kernel
theorem dX7_playTo_29 : decode cX7_playTo 29 = .ok (.aload_n 0, 1) := by decide +kernel
theorem dX7_playTo_30 : decode cX7_playTo 30 = .ok (.iload_n 3, 1) := by decide +kernel
theorem dX7_playTo_31 : decode cX7_playTo 31 = .ok (.invokevirtual 133, 3) := by decide +kernel
theorem dX7_playTo_34 : decode cX7_playTo 34 = .ok (.iload_n 3, 1) := by decide +kernel
theorem dX7_playTo_35 : decode cX7_playTo 35 = .ok (.bipush 8, 2) := by decide +kernel
theorem dX7_playTo_37 : decode cX7_playTo 37 = .ok (.if_icmp .gt 12, 3) := by decide +kernel
theorem dX7_playTo_40 : decode cX7_playTo 40 = .ok (.aload_n 0, 1) := by decide +kernel
theorem dX7_playTo_41 : decode cX7_playTo 41 = .ok (.getfield 32, 3) := by decide +kernel
theorem dX7_playTo_44 : decode cX7_playTo 44 = .ok (.iload_n 3, 1) := by decide +kernel
theorem dX7_playTo_45 : decode cX7_playTo 45 = .ok (.iaload, 1) := by decide +kernel
theorem dX7_playTo_46 : decode cX7_playTo 46 = .ok (.goto 4, 3) := by decide +kernel
theorem dX7_playTo_49 : decode cX7_playTo 49 = .ok (.iconst 0, 1) := by decide +kernel
theorem dX7_playTo_50 : decode cX7_playTo 50 = .ok (.istore 4, 2) := by decide +kernel
theorem dX7_playTo_52 : decode cX7_playTo 52 = .ok (.aload_n 0, 1) := by decide +kernel
theorem dX7_playTo_53 : decode cX7_playTo 53 = .ok (.aload_n 0, 1) := by decide +kernel
theorem dX7_playTo_54 : decode cX7_playTo 54 = .ok (.iload 4, 2) := by decide +kernel
theorem dX7_playTo_56 : decode cX7_playTo 56 = .ok (.invokevirtual 136, 3) := by decide +kernel
theorem dX7_playTo_59 : decode cX7_playTo 59 = .ok (.ifCond .ne 7, 3) := by decide +kernel
theorem dX7_playTo_62 : decode cX7_playTo 62 = .ok (.iconst 1, 1) := by decide +kernel
theorem dX7_playTo_63 : decode cX7_playTo 63 = .ok (.goto 4, 3) := by decide +kernel
theorem dX7_playTo_66 : decode cX7_playTo 66 = .ok (.iconst 0, 1) := by decide +kernel
theorem dX7_playTo_67 : decode cX7_playTo 67 = .ok (.putfield 127, 3) := by decide +kernel
theorem dX7_playTo_70 : decode cX7_playTo 70 = .ok (.aload_n 0, 1) := by decide +kernel
theorem dX7_playTo_71 : decode cX7_playTo 71 = .ok (.getfield 127, 3) := by decide +kernel
theorem dX7_playTo_74 : decode cX7_playTo 74 = .ok (.ifCond .eq 11, 3) := by decide +kernel
theorem dX7_playTo_77 : decode cX7_playTo 77 = .ok (.aload_n 0, 1) := by decide +kernel
theorem dX7_playTo_78 : decode cX7_playTo 78 = .ok (.iload_n 3, 1) := by decide +kernel
theorem dX7_playTo_79 : decode cX7_playTo 79 = .ok (.putfield 130, 3) := by decide +kernel
theorem dX7_playTo_82 : decode cX7_playTo 82 = .ok (.goto 25, 3) := by decide +kernel
theorem dX7_playTo_85 : decode cX7_playTo 85 = .ok (.aload_n 0, 1) := by decide +kernel
theorem dX7_playTo_86 : decode cX7_playTo 86 = .ok (.iload 4, 2) := by decide +kernel
theorem dX7_playTo_88 : decode cX7_playTo 88 = .ok (.invokevirtual 139, 3) := by decide +kernel
theorem dX7_playTo_91 : decode cX7_playTo 91 = .ok (.aload_n 0, 1) := by decide +kernel
theorem dX7_playTo_92 : decode cX7_playTo 92 = .ok (.aload_n 0, 1) := by decide +kernel
theorem dX7_playTo_93 : decode cX7_playTo 93 = .ok (.invokevirtual 142, 3) := by decide +kernel
theorem dX7_playTo_96 : decode cX7_playTo 96 = .ok (.ifCond .eq 7, 3) := by decide +kernel
theorem dX7_playTo_99 : decode cX7_playTo 99 = .ok (.iconst 0, 1) := by decide +kernel
theorem dX7_playTo_100 : decode cX7_playTo 100 = .ok (.goto 4, 3) := by decide +kernel
theorem dX7_playTo_103 : decode cX7_playTo 103 = .ok (.iload_n 3, 1) := by decide +kernel
theorem dX7_playTo_104 : decode cX7_playTo 104 = .ok (.putfield 130, 3) := by decide +kernel
theorem dX7_playTo_107 : decode cX7_playTo 107 = .ok (.iinc 3 1, 3) := by decide +kernel
theorem dX7_playTo_110 : decode cX7_playTo 110 = .ok (.goto (-93), 3) := by decide +kernel
theorem dX7_playTo_113 : decode cX7_playTo 113 = .ok (.return_, 1) := by decide +kernel
set_option maxRecDepth 20000 in
theorem ggX7_play_X7_isFire : GoodIn wsX7_play wsX7_isFire := goodIn_r _ [11, 12, 13, 14, 10, 15, 16, 17, 18, 19, 67, 68, 69, 70, 71, 72, 73, 74, 75, 76, 77, 78, 79, 80, 81, 82, 83, 84, 85, 86, 87, 88, 89, 90, 91, 92, 93, 94, 95, 96, 97, 98, 99, 100] (by decide +kernel) (by decide +kernel)
set_option maxRecDepth 20000 in
theorem gX7_play_X7_isFire : GoodIn wsX7_play (wsV RX7 146 RX7 yX7_isFire wsX7_isFire) := goodIn_app (goodIn_of _ (by decide +kernel)) ggX7_play_X7_isFire
set_option maxRecDepth 20000 in
theorem ggX7_play_X7_in : GoodIn wsX7_play wsX7_in := goodIn_r _ [19] (by decide +kernel) (by decide +kernel)
set_option maxRecDepth 20000 in
theorem gX7_play_X7_in : GoodIn wsX7_play (va_wsS RX7 68 yX7_in wsX7_in) := goodIn_app (goodIn_of _ (by decide +kernel)) ggX7_play_X7_in
set_option maxRecDepth 20000 in
theorem ggX7_play_X7_playTo : GoodIn wsX7_play wsX7_playTo := goodIn_r _ [23, 2, 5, 24, 25, 26, 27, 10, 28, 3, 4, 29, 6, 30, 31, 32, 33, 34, 35, 36, 37, 38, 39, 12, 13, 14, 15, 16, 40, 41, 42, 43, 44, 45, 46, 47, 48, 49, 50, 51, 52, 53, 54, 55, 56, 57, 67, 68, 69, 70, 71, 72, 73, 74, 75, 76, 77, 78, 79, 80, 81, 82, 83, 84, 85, 86, 87, 88, 89, 90, 91, 92, 93, 94, 95, 96, 97, 98, 99, 100] (by decide +kernel) (by decide +kernel)
set_option maxRecDepth 20000 in
theorem gX7_play_X7_playTo : GoodIn wsX7_play (wsV RX7 151 RX7 yX7_playTo wsX7_playTo) := goodIn_app (goodIn_of _ (by decide +kernel)) ggX7_play_X7_playTo
set_option maxRecDepth 20000 in
theorem ggX7_play_X7_saved : GoodIn wsX7_play wsX7_saved := goodIn_r _ [61, 3, 12, 13, 14, 10, 15, 16, 62, 63, 64, 65, 66, 67, 68, 69, 70, 71, 72, 73, 74, 75, 76, 77, 78, 79, 80, 81, 82, 83, 84, 85, 86, 87, 88, 89, 90, 91, 92, 93, 94, 95, 96, 97, 98, 99, 100] (by decide +kernel) (by decide +kernel)
set_option maxRecDepth 20000 in
theorem gX7_play_X7_saved : GoodIn wsX7_play (wsV RX7 155 RX7 yX7_saved wsX7_saved) := goodIn_app (goodIn_of _ (by decide +kernel)) ggX7_play_X7_saved
theorem dX7_play_0 : decode cX7_play 0 = .ok (.aload_n 0, 1) := by decide +kernel
theorem dX7_play_1 : decode cX7_play 1 = .ok (.iload_n 1, 1) := by decide +kernel
theorem dX7_play_2 : decode cX7_play 2 = .ok (.invokevirtual 146, 3) := by decide +kernel
theorem dX7_play_5 : decode cX7_play 5 = .ok (.ifCond .eq 15, 3) := by decide +kernel
theorem dX7_play_8 : decode cX7_play 8 = .ok (.iload_n 2, 1) := by decide +kernel
theorem dX7_play_9 : decode cX7_play 9 = .ok (.i2l, 1) := by decide +kernel
theorem dX7_play_10 : decode cX7_play 10 = .ok (.lconst 0, 1) := by decide +kernel
theorem dX7_play_11 : decode cX7_play 11 = .ok (.ldc2_w 149, 3) := by decide +kernel
theorem dX7_play_14 : decode cX7_play 14 = .ok (.invokestatic 68, 3) := by decide +kernel
theorem dX7_play_17 : decode cX7_play 17 = .ok (.ifCond .ne 7, 3) := by decide +kernel
theorem dX7_play_20 : decode cX7_play 20 = .ok (.sipush (-1002), 3) := by decide +kernel
theorem dX7_play_23 : decode cX7_play 23 = .ok (.ireturn, 1) := by decide +kernel
theorem dX7_play_24 : decode cX7_play 24 = .ok (.aload_n 0, 1) := by decide +kernel
theorem dX7_play_25 : decode cX7_play 25 = .ok (.iload_n 1, 1) := by decide +kernel
theorem dX7_play_26 : decode cX7_play 26 = .ok (.bipush 30, 2) := by decide +kernel
theorem dX7_play_28 : decode cX7_play 28 = .ok (.invokevirtual 151, 3) := by decide +kernel
theorem dX7_play_31 : decode cX7_play 31 = .ok (.iload_n 2, 1) := by decide +kernel
theorem dX7_play_32 : decode cX7_play 32 = .ok (.ifCond .ne 21, 3) := by decide +kernel
theorem dX7_play_35 : decode cX7_play 35 = .ok (.aload_n 0, 1) := by decide +kernel
theorem dX7_play_36 : decode cX7_play 36 = .ok (.getfield 127, 3) := by decide +kernel
theorem dX7_play_39 : decode cX7_play 39 = .ok (.ifCond .eq 7, 3) := by decide +kernel
theorem dX7_play_42 : decode cX7_play 42 = .ok (.iconst (-1), 1) := by decide +kernel
theorem dX7_play_43 : decode cX7_play 43 = .ok (.goto 50, 3) := by decide +kernel
theorem dX7_play_46 : decode cX7_play 46 = .ok (.aload_n 0, 1) := by decide +kernel
theorem dX7_play_47 : decode cX7_play 47 = .ok (.invokevirtual 155, 3) := by decide +kernel
theorem dX7_play_50 : decode cX7_play 50 = .ok (.goto 43, 3) := by decide +kernel
theorem dX7_play_53 : decode cX7_play 53 = .ok (.iload_n 2, 1) := by decide +kernel
theorem dX7_play_54 : decode cX7_play 54 = .ok (.iconst 1, 1) := by decide +kernel
theorem dX7_play_55 : decode cX7_play 55 = .ok (.if_icmp .ne 10, 3) := by decide +kernel
theorem dX7_play_58 : decode cX7_play 58 = .ok (.aload_n 0, 1) := by decide +kernel
theorem dX7_play_59 : decode cX7_play 59 = .ok (.getfield 103, 3) := by decide +kernel
theorem dX7_play_62 : decode cX7_play 62 = .ok (.goto 31, 3) := by decide +kernel
theorem dX7_play_65 : decode cX7_play 65 = .ok (.iload_n 2, 1) := by decide +kernel
theorem dX7_play_66 : decode cX7_play 66 = .ok (.iconst 2, 1) := by decide +kernel
theorem dX7_play_67 : decode cX7_play 67 = .ok (.if_icmp .ne 10, 3) := by decide +kernel
theorem dX7_play_70 : decode cX7_play 70 = .ok (.aload_n 0, 1) := by decide +kernel
theorem dX7_play_71 : decode cX7_play 71 = .ok (.getfield 106, 3) := by decide +kernel
theorem dX7_play_74 : decode cX7_play 74 = .ok (.goto 19, 3) := by decide +kernel
theorem dX7_play_77 : decode cX7_play 77 = .ok (.iload_n 2, 1) := by decide +kernel
theorem dX7_play_78 : decode cX7_play 78 = .ok (.iconst 3, 1) := by decide +kernel
theorem dX7_play_79 : decode cX7_play 79 = .ok (.if_icmp .ne 10, 3) := by decide +kernel
theorem dX7_play_82 : decode cX7_play 82 = .ok (.aload_n 0, 1) := by decide +kernel
theorem dX7_play_83 : decode cX7_play 83 = .ok (.getfield 130, 3) := by decide +kernel
theorem dX7_play_86 : decode cX7_play 86 = .ok (.goto 7, 3) := by decide +kernel
theorem dX7_play_89 : decode cX7_play 89 = .ok (.aload_n 0, 1) := by decide +kernel
theorem dX7_play_90 : decode cX7_play 90 = .ok (.getfield 112, 3) := by decide +kernel
theorem dX7_play_93 : decode cX7_play 93 = .ok (.ireturn, 1) := by decide +kernel
set_option maxRecDepth 20000 in
theorem ggX7_burns_X7_isFire : GoodIn wsX7_burns wsX7_isFire := goodIn_r _ [7, 8, 9, 10, 6, 11, 12, 13, 14, 15, 58, 59, 60, 61, 62, 63, 64, 65, 66, 67, 68, 69, 70, 71, 72, 73, 74, 75, 76, 77, 78, 79, 80, 81, 82, 83, 84, 85, 86, 87, 88, 89, 90, 91] (by decide +kernel) (by decide +kernel)
set_option maxRecDepth 20000 in
theorem gX7_burns_X7_isFire : GoodIn wsX7_burns (wsV RX7 146 RX7 yX7_isFire wsX7_isFire) := goodIn_app (goodIn_of _ (by decide +kernel)) ggX7_burns_X7_isFire
set_option maxRecDepth 20000 in
theorem ggX7_burns_X7_in : GoodIn wsX7_burns wsX7_in := goodIn_r _ [15] (by decide +kernel) (by decide +kernel)
set_option maxRecDepth 20000 in
theorem gX7_burns_X7_in : GoodIn wsX7_burns (va_wsS RX7 68 yX7_in wsX7_in) := goodIn_app (goodIn_of _ (by decide +kernel)) ggX7_burns_X7_in
set_option maxRecDepth 20000 in
theorem ggX7_burns_X7_playTo : GoodIn wsX7_burns wsX7_playTo := goodIn_r _ [19, 20, 21, 22, 23, 24, 25, 6, 26, 2, 27, 28, 29, 30, 31, 32, 33, 34, 35, 36, 37, 38, 39, 8, 9, 10, 11, 12, 40, 41, 42, 43, 44, 45, 46, 47, 48, 49, 50, 51, 52, 53, 54, 55, 56, 57, 58, 59, 60, 61, 62, 63, 64, 65, 66, 67, 68, 69, 70, 71, 72, 73, 74, 75, 76, 77, 78, 79, 80, 81, 82, 83, 84, 85, 86, 87, 88, 89, 90, 91] (by decide +kernel) (by decide +kernel)
set_option maxRecDepth 20000 in
theorem gX7_burns_X7_playTo : GoodIn wsX7_burns (wsV RX7 151 RX7 yX7_playTo wsX7_playTo) := goodIn_app (goodIn_of _ (by decide +kernel)) ggX7_burns_X7_playTo
theorem dX7_burns_0 : decode cX7_burns 0 = .ok (.aload_n 0, 1) := by decide +kernel
theorem dX7_burns_1 : decode cX7_burns 1 = .ok (.iload_n 1, 1) := by decide +kernel
theorem dX7_burns_2 : decode cX7_burns 2 = .ok (.invokevirtual 146, 3) := by decide +kernel
theorem dX7_burns_5 : decode cX7_burns 5 = .ok (.ifCond .eq 15, 3) := by decide +kernel
theorem dX7_burns_8 : decode cX7_burns 8 = .ok (.iload_n 2, 1) := by decide +kernel
theorem dX7_burns_9 : decode cX7_burns 9 = .ok (.i2l, 1) := by decide +kernel
theorem dX7_burns_10 : decode cX7_burns 10 = .ok (.lconst 0, 1) := by decide +kernel
theorem dX7_burns_11 : decode cX7_burns 11 = .ok (.ldc2_w 86, 3) := by decide +kernel
theorem dX7_burns_14 : decode cX7_burns 14 = .ok (.invokestatic 68, 3) := by decide +kernel
theorem dX7_burns_17 : decode cX7_burns 17 = .ok (.ifCond .ne 7, 3) := by decide +kernel
theorem dX7_burns_20 : decode cX7_burns 20 = .ok (.sipush (-1002), 3) := by decide +kernel
theorem dX7_burns_23 : decode cX7_burns 23 = .ok (.ireturn, 1) := by decide +kernel
theorem dX7_burns_24 : decode cX7_burns 24 = .ok (.aload_n 0, 1) := by decide +kernel
theorem dX7_burns_25 : decode cX7_burns 25 = .ok (.iload_n 1, 1) := by decide +kernel
theorem dX7_burns_26 : decode cX7_burns 26 = .ok (.iload_n 2, 1) := by decide +kernel
theorem dX7_burns_27 : decode cX7_burns 27 = .ok (.invokevirtual 151, 3) := by decide +kernel
theorem dX7_burns_30 : decode cX7_burns 30 = .ok (.aload_n 0, 1) := by decide +kernel
theorem dX7_burns_31 : decode cX7_burns 31 = .ok (.getfield 103, 3) := by decide +kernel
theorem dX7_burns_34 : decode cX7_burns 34 = .ok (.ireturn, 1) := by decide +kernel
theorem dX7_keep_0 : decode cX7_keep 0 = .ok (.aload_n 0, 1) := by decide +kernel
theorem dX7_keep_1 : decode cX7_keep 1 = .ok (.getfield 41, 3) := by decide +kernel
theorem dX7_keep_4 : decode cX7_keep 4 = .ok (.iload_n 1, 1) := by decide +kernel
theorem dX7_keep_5 : decode cX7_keep 5 = .ok (.aload_n 0, 1) := by decide +kernel
theorem dX7_keep_6 : decode cX7_keep 6 = .ok (.getfield 103, 3) := by decide +kernel
theorem dX7_keep_9 : decode cX7_keep 9 = .ok (.iastore, 1) := by decide +kernel
theorem dX7_keep_10 : decode cX7_keep 10 = .ok (.aload_n 0, 1) := by decide +kernel
theorem dX7_keep_11 : decode cX7_keep 11 = .ok (.getfield 44, 3) := by decide +kernel
theorem dX7_keep_14 : decode cX7_keep 14 = .ok (.iload_n 1, 1) := by decide +kernel
theorem dX7_keep_15 : decode cX7_keep 15 = .ok (.aload_n 0, 1) := by decide +kernel
theorem dX7_keep_16 : decode cX7_keep 16 = .ok (.getfield 106, 3) := by decide +kernel
theorem dX7_keep_19 : decode cX7_keep 19 = .ok (.iastore, 1) := by decide +kernel
theorem dX7_keep_20 : decode cX7_keep 20 = .ok (.aload_n 0, 1) := by decide +kernel
theorem dX7_keep_21 : decode cX7_keep 21 = .ok (.getfield 47, 3) := by decide +kernel
theorem dX7_keep_24 : decode cX7_keep 24 = .ok (.iload_n 1, 1) := by decide +kernel
theorem dX7_keep_25 : decode cX7_keep 25 = .ok (.aload_n 0, 1) := by decide +kernel
theorem dX7_keep_26 : decode cX7_keep 26 = .ok (.getfield 109, 3) := by decide +kernel
theorem dX7_keep_29 : decode cX7_keep 29 = .ok (.iastore, 1) := by decide +kernel
theorem dX7_keep_30 : decode cX7_keep 30 = .ok (.aload_n 0, 1) := by decide +kernel
theorem dX7_keep_31 : decode cX7_keep 31 = .ok (.getfield 38, 3) := by decide +kernel
theorem dX7_keep_34 : decode cX7_keep 34 = .ok (.iload_n 1, 1) := by decide +kernel
theorem dX7_keep_35 : decode cX7_keep 35 = .ok (.iconst 0, 1) := by decide +kernel
theorem dX7_keep_36 : decode cX7_keep 36 = .ok (.iastore, 1) := by decide +kernel
theorem dX7_keep_37 : decode cX7_keep 37 = .ok (.return_, 1) := by decide +kernel
theorem dX7_restore_0 : decode cX7_restore 0 = .ok (.aload_n 0, 1) := by decide +kernel
theorem dX7_restore_1 : decode cX7_restore 1 = .ok (.aload_n 0, 1) := by decide +kernel
theorem dX7_restore_2 : decode cX7_restore 2 = .ok (.getfield 41, 3) := by decide +kernel
theorem dX7_restore_5 : decode cX7_restore 5 = .ok (.iload_n 1, 1) := by decide +kernel
theorem dX7_restore_6 : decode cX7_restore 6 = .ok (.iaload, 1) := by decide +kernel
theorem dX7_restore_7 : decode cX7_restore 7 = .ok (.putfield 103, 3) := by decide +kernel
theorem dX7_restore_10 : decode cX7_restore 10 = .ok (.aload_n 0, 1) := by decide +kernel
theorem dX7_restore_11 : decode cX7_restore 11 = .ok (.aload_n 0, 1) := by decide +kernel
theorem dX7_restore_12 : decode cX7_restore 12 = .ok (.getfield 44, 3) := by decide +kernel
theorem dX7_restore_15 : decode cX7_restore 15 = .ok (.iload_n 1, 1) := by decide +kernel
theorem dX7_restore_16 : decode cX7_restore 16 = .ok (.iaload, 1) := by decide +kernel
theorem dX7_restore_17 : decode cX7_restore 17 = .ok (.putfield 106, 3) := by decide +kernel
theorem dX7_restore_20 : decode cX7_restore 20 = .ok (.aload_n 0, 1) := by decide +kernel
theorem dX7_restore_21 : decode cX7_restore 21 = .ok (.aload_n 0, 1) := by decide +kernel
theorem dX7_restore_22 : decode cX7_restore 22 = .ok (.getfield 47, 3) := by decide +kernel
theorem dX7_restore_25 : decode cX7_restore 25 = .ok (.iload_n 1, 1) := by decide +kernel
theorem dX7_restore_26 : decode cX7_restore 26 = .ok (.iaload, 1) := by decide +kernel
theorem dX7_restore_27 : decode cX7_restore 27 = .ok (.putfield 109, 3) := by decide +kernel
theorem dX7_restore_30 : decode cX7_restore 30 = .ok (.return_, 1) := by decide +kernel
set_option maxRecDepth 20000 in
theorem ggX7_compare_X7_saved : GoodIn wsX7_compare wsX7_saved := goodIn_r _ [9, 10, 11, 12, 13, 8, 14, 15, 16, 17, 18, 19, 20, 21, 22, 23, 24, 25, 26, 27, 28, 29, 30, 31, 32, 33, 34, 35, 36, 37, 38, 39, 40, 41, 42, 43, 44, 45, 46, 47, 48, 49, 50, 51, 52, 53, 54] (by decide +kernel) (by decide +kernel)
set_option maxRecDepth 20000 in
theorem gX7_compare_X7_saved : GoodIn wsX7_compare (wsV RX7 155 RX7 yX7_saved wsX7_saved) := goodIn_app (goodIn_of _ (by decide +kernel)) ggX7_compare_X7_saved
theorem dX7_compare_0 : decode cX7_compare 0 = .ok (.aload_n 0, 1) := by decide +kernel
theorem dX7_compare_1 : decode cX7_compare 1 = .ok (.invokevirtual 155, 3) := by decide +kernel
theorem dX7_compare_4 : decode cX7_compare 4 = .ok (.aload_n 0, 1) := by decide +kernel
theorem dX7_compare_5 : decode cX7_compare 5 = .ok (.getfield 158, 3) := by decide +kernel
theorem dX7_compare_8 : decode cX7_compare 8 = .ok (.if_icmp .le 51, 3) := by decide +kernel
theorem dX7_compare_11 : decode cX7_compare 11 = .ok (.aload_n 0, 1) := by decide +kernel
theorem dX7_compare_12 : decode cX7_compare 12 = .ok (.aload_n 0, 1) := by decide +kernel
theorem dX7_compare_13 : decode cX7_compare 13 = .ok (.invokevirtual 155, 3) := by decide +kernel
theorem dX7_compare_16 : decode cX7_compare 16 = .ok (.putfield 158, 3) := by decide +kernel
theorem dX7_compare_19 : decode cX7_compare 19 = .ok (.aload_n 0, 1) := by decide +kernel
theorem dX7_compare_20 : decode cX7_compare 20 = .ok (.iload_n 1, 1) := by decide +kernel
theorem dX7_compare_21 : decode cX7_compare 21 = .ok (.putfield 161, 3) := by decide +kernel
theorem dX7_compare_24 : decode cX7_compare 24 = .ok (.iconst 1, 1) := by decide +kernel
theorem dX7_compare_25 : decode cX7_compare 25 = .ok (.istore_n 3, 1) := by decide +kernel
theorem dX7_compare_26 : decode cX7_compare 26 = .ok (.iload_n 3, 1) := by decide +kernel
theorem dX7_compare_27 : decode cX7_compare 27 = .ok (.bipush 8, 2) := by decide +kernel
theorem dX7_compare_29 : decode cX7_compare 29 = .ok (.if_icmp .gt 30, 3) := by decide +kernel
theorem dX7_compare_32 : decode cX7_compare 32 = .ok (.aload_n 0, 1) := by decide +kernel
theorem dX7_compare_33 : decode cX7_compare 33 = .ok (.getfield 50, 3) := by decide +kernel
theorem dX7_compare_36 : decode cX7_compare 36 = .ok (.iload_n 3, 1) := by decide +kernel
theorem dX7_compare_37 : decode cX7_compare 37 = .ok (.iload_n 3, 1) := by decide +kernel
theorem dX7_compare_38 : decode cX7_compare 38 = .ok (.iload_n 2, 1) := by decide +kernel
theorem dX7_compare_39 : decode cX7_compare 39 = .ok (.if_icmp .gt 12, 3) := by decide +kernel
theorem dX7_compare_42 : decode cX7_compare 42 = .ok (.aload_n 0, 1) := by decide +kernel
theorem dX7_compare_43 : decode cX7_compare 43 = .ok (.getfield 38, 3) := by decide +kernel
theorem dX7_compare_46 : decode cX7_compare 46 = .ok (.iload_n 3, 1) := by decide +kernel
theorem dX7_compare_47 : decode cX7_compare 47 = .ok (.iaload, 1) := by decide +kernel
theorem dX7_compare_48 : decode cX7_compare 48 = .ok (.goto 4, 3) := by decide +kernel
theorem dX7_compare_51 : decode cX7_compare 51 = .ok (.iconst 0, 1) := by decide +kernel
theorem dX7_compare_52 : decode cX7_compare 52 = .ok (.iastore, 1) := by decide +kernel
theorem dX7_compare_53 : decode cX7_compare 53 = .ok (.iinc 3 1, 3) := by decide +kernel
theorem dX7_compare_56 : decode cX7_compare 56 = .ok (.goto (-30), 3) := by decide +kernel
theorem dX7_compare_59 : decode cX7_compare 59 = .ok (.return_, 1) := by decide +kernel
set_option maxRecDepth 20000 in
theorem ggX7_goOn_X7_all : GoodIn wsX7_goOn wsX7_all := goodIn_r _ [8, 9, 10, 11, 12, 13, 14, 15, 16, 17, 18, 19, 20, 21, 22, 23, 24, 25, 26, 27, 28, 29, 30, 31, 32, 33, 34, 35, 36, 37, 38, 39, 40, 41, 42, 43] (by decide +kernel) (by decide +kernel)
set_option maxRecDepth 20000 in
theorem gX7_goOn_X7_all : GoodIn wsX7_goOn (wsV RX7 72 RX7 yX7_all wsX7_all) := goodIn_app (goodIn_of _ (by decide +kernel)) ggX7_goOn_X7_all
theorem dX7_goOn_0 : decode cX7_goOn 0 = .ok (.aload_n 0, 1) := by decide +kernel
theorem dX7_goOn_1 : decode cX7_goOn 1 = .ok (.invokevirtual 72, 3) := by decide +kernel
theorem dX7_goOn_4 : decode cX7_goOn 4 = .ok (.aload_n 0, 1) := by decide +kernel
theorem dX7_goOn_5 : decode cX7_goOn 5 = .ok (.getfield 41, 3) := by decide +kernel
theorem dX7_goOn_8 : decode cX7_goOn 8 = .ok (.iload_n 1, 1) := by decide +kernel
theorem dX7_goOn_9 : decode cX7_goOn 9 = .ok (.iaload, 1) := by decide +kernel
theorem dX7_goOn_10 : decode cX7_goOn 10 = .ok (.iconst (-1), 1) := by decide +kernel
theorem dX7_goOn_11 : decode cX7_goOn 11 = .ok (.ixor, 1) := by decide +kernel
theorem dX7_goOn_12 : decode cX7_goOn 12 = .ok (.iand, 1) := by decide +kernel
theorem dX7_goOn_13 : decode cX7_goOn 13 = .ok (.aload_n 0, 1) := by decide +kernel
theorem dX7_goOn_14 : decode cX7_goOn 14 = .ok (.getfield 44, 3) := by decide +kernel
theorem dX7_goOn_17 : decode cX7_goOn 17 = .ok (.iload_n 1, 1) := by decide +kernel
theorem dX7_goOn_18 : decode cX7_goOn 18 = .ok (.iaload, 1) := by decide +kernel
theorem dX7_goOn_19 : decode cX7_goOn 19 = .ok (.iconst (-1), 1) := by decide +kernel
theorem dX7_goOn_20 : decode cX7_goOn 20 = .ok (.ixor, 1) := by decide +kernel
theorem dX7_goOn_21 : decode cX7_goOn 21 = .ok (.iand, 1) := by decide +kernel
theorem dX7_goOn_22 : decode cX7_goOn 22 = .ok (.istore_n 2, 1) := by decide +kernel
theorem dX7_goOn_23 : decode cX7_goOn 23 = .ok (.aload_n 0, 1) := by decide +kernel
theorem dX7_goOn_24 : decode cX7_goOn 24 = .ok (.getfield 38, 3) := by decide +kernel
theorem dX7_goOn_27 : decode cX7_goOn 27 = .ok (.iload_n 1, 1) := by decide +kernel
theorem dX7_goOn_28 : decode cX7_goOn 28 = .ok (.iaload, 1) := by decide +kernel
theorem dX7_goOn_29 : decode cX7_goOn 29 = .ok (.iload_n 2, 1) := by decide +kernel
theorem dX7_goOn_30 : decode cX7_goOn 30 = .ok (.iconst (-1), 1) := by decide +kernel
theorem dX7_goOn_31 : decode cX7_goOn 31 = .ok (.ixor, 1) := by decide +kernel
theorem dX7_goOn_32 : decode cX7_goOn 32 = .ok (.ior, 1) := by decide +kernel
theorem dX7_goOn_33 : decode cX7_goOn 33 = .ok (.iconst 1, 1) := by decide +kernel
theorem dX7_goOn_34 : decode cX7_goOn 34 = .ok (.iadd, 1) := by decide +kernel
theorem dX7_goOn_35 : decode cX7_goOn 35 = .ok (.iload_n 2, 1) := by decide +kernel
theorem dX7_goOn_36 : decode cX7_goOn 36 = .ok (.iand, 1) := by decide +kernel
theorem dX7_goOn_37 : decode cX7_goOn 37 = .ok (.istore_n 3, 1) := by decide +kernel
theorem dX7_goOn_38 : decode cX7_goOn 38 = .ok (.aload_n 0, 1) := by decide +kernel
theorem dX7_goOn_39 : decode cX7_goOn 39 = .ok (.getfield 38, 3) := by decide +kernel
theorem dX7_goOn_42 : decode cX7_goOn 42 = .ok (.iload_n 1, 1) := by decide +kernel
theorem dX7_goOn_43 : decode cX7_goOn 43 = .ok (.iload_n 3, 1) := by decide +kernel
theorem dX7_goOn_44 : decode cX7_goOn 44 = .ok (.ifCond .ne 9, 3) := by decide +kernel
theorem dX7_goOn_47 : decode cX7_goOn 47 = .ok (.sipush 1024, 3) := by decide +kernel
theorem dX7_goOn_50 : decode cX7_goOn 50 = .ok (.goto 4, 3) := by decide +kernel
theorem dX7_goOn_53 : decode cX7_goOn 53 = .ok (.iload_n 3, 1) := by decide +kernel
theorem dX7_goOn_54 : decode cX7_goOn 54 = .ok (.iastore, 1) := by decide +kernel
theorem dX7_goOn_55 : decode cX7_goOn 55 = .ok (.return_, 1) := by decide +kernel
set_option maxRecDepth 20000 in
theorem ggX7_seek_X7_all : GoodIn wsX7_seek wsX7_all := goodIn_r _ [13, 14, 75, 76, 77, 78, 79, 80, 81, 82, 83, 84, 85, 86, 87, 88, 89, 90, 91, 92, 93, 94, 95, 96, 97, 98, 99, 100, 101, 102, 103, 104, 105, 106, 107, 108] (by decide +kernel) (by decide +kernel)
set_option maxRecDepth 20000 in
theorem gX7_seek_X7_all : GoodIn wsX7_seek (wsV RX7 72 RX7 yX7_all wsX7_all) := goodIn_app (goodIn_of _ (by decide +kernel)) ggX7_seek_X7_all
set_option maxRecDepth 20000 in
theorem ggX7_seek_X7_priceOf : GoodIn wsX7_seek wsX7_priceOf := goodIn_r _ [18, 14, 19, 75, 76, 77, 78, 79, 80, 81, 82, 83, 84, 85, 86, 87, 88, 89, 90, 91, 92, 93, 94, 95, 96, 97, 98, 99, 100, 101, 102, 103, 104, 105, 106, 107, 108] (by decide +kernel) (by decide +kernel)
set_option maxRecDepth 20000 in
theorem gX7_seek_X7_priceOf : GoodIn wsX7_seek (wsV RX7 115 RX7 yX7_priceOf wsX7_priceOf) := goodIn_app (goodIn_of _ (by decide +kernel)) ggX7_seek_X7_priceOf
set_option maxRecDepth 20000 in
theorem ggX7_seek_X7_light : GoodIn wsX7_seek wsX7_light := goodIn_r _ [23, 24, 25, 7, 26, 75, 76, 77, 78, 79, 80, 81, 82, 83, 84, 85, 86, 87, 88, 89, 90, 91, 92, 93, 94, 95, 96, 97, 98, 99, 100, 101, 102, 103, 104, 105, 106, 107, 108] (by decide +kernel) (by decide +kernel)
set_option maxRecDepth 20000 in
theorem gX7_seek_X7_light : GoodIn wsX7_seek (wsV RX7 123 RX7 yX7_light wsX7_light) := goodIn_app (goodIn_of _ (by decide +kernel)) ggX7_seek_X7_light
set_option maxRecDepth 20000 in
theorem ggX7_seek_X7_fill : GoodIn wsX7_seek wsX7_fill := goodIn_r _ [30, 31, 7, 32, 75, 76, 77, 78, 79, 80, 81, 82, 83, 84, 85, 86, 87, 88, 89, 90, 91, 92, 93, 94, 95, 96, 97, 98, 99, 100, 101, 102, 103, 104, 105, 106, 107, 108] (by decide +kernel) (by decide +kernel)
set_option maxRecDepth 20000 in
theorem gX7_seek_X7_fill : GoodIn wsX7_seek (wsV RX7 133 RX7 yX7_fill wsX7_fill) := goodIn_app (goodIn_of _ (by decide +kernel)) ggX7_seek_X7_fill
set_option maxRecDepth 20000 in
theorem ggX7_seek_X7_keep : GoodIn wsX7_seek wsX7_keep := goodIn_r _ [36, 37, 24, 38, 25, 39, 7, 6, 75, 76, 77, 78, 79, 80, 81, 82, 83, 84, 85, 86, 87, 88, 89, 90, 91, 92, 93, 94, 95, 96, 97, 98, 99, 100, 101, 102, 103, 104, 105, 106, 107, 108] (by decide +kernel) (by decide +kernel)
set_option maxRecDepth 20000 in
theorem gX7_seek_X7_keep : GoodIn wsX7_seek (wsV RX7 170 RX7 yX7_keep wsX7_keep) := goodIn_app (goodIn_of _ (by decide +kernel)) ggX7_seek_X7_keep
set_option maxRecDepth 20000 in
theorem ggX7_seek_X7_restore : GoodIn wsX7_seek wsX7_restore := goodIn_r _ [43, 37, 24, 38, 25, 39, 7, 75, 76, 77, 78, 79, 80, 81, 82, 83, 84, 85, 86, 87, 88, 89, 90, 91, 92, 93, 94, 95, 96, 97, 98, 99, 100, 101, 102, 103, 104, 105, 106, 107, 108] (by decide +kernel) (by decide +kernel)
set_option maxRecDepth 20000 in
theorem gX7_seek_X7_restore : GoodIn wsX7_seek (wsV RX7 173 RX7 yX7_restore wsX7_restore) := goodIn_app (goodIn_of _ (by decide +kernel)) ggX7_seek_X7_restore
set_option maxRecDepth 20000 in
theorem ggX7_seek_X7_goOn : GoodIn wsX7_seek wsX7_goOn := goodIn_r _ [47, 37, 38, 6, 9, 10, 11, 12, 13, 14, 75, 76, 77, 78, 79, 80, 81, 82, 83, 84, 85, 86, 87, 88, 89, 90, 91, 92, 93, 94, 95, 96, 97, 98, 99, 100, 101, 102, 103, 104, 105, 106, 107, 108] (by decide +kernel) (by decide +kernel)
set_option maxRecDepth 20000 in
theorem gX7_seek_X7_goOn : GoodIn wsX7_seek (wsV RX7 176 RX7 yX7_goOn wsX7_goOn) := goodIn_app (goodIn_of _ (by decide +kernel)) ggX7_seek_X7_goOn
set_option maxRecDepth 20000 in
theorem ggX7_seek_X7_guard : GoodIn wsX7_seek wsX7_guard := goodIn_r _ [51, 25, 7, 26, 15, 16, 17, 12, 18, 14, 19, 75, 76, 77, 78, 79, 80, 81, 82, 83, 84, 85, 86, 87, 88, 89, 90, 91, 92, 93, 94, 95, 96, 97, 98, 99, 100, 101, 102, 103, 104, 105, 106, 107, 108] (by decide +kernel) (by decide +kernel)
set_option maxRecDepth 20000 in
theorem gX7_seek_X7_guard : GoodIn wsX7_seek (wsV RX7 139 RX7 yX7_guard wsX7_guard) := goodIn_app (goodIn_of _ (by decide +kernel)) ggX7_seek_X7_guard
set_option maxRecDepth 20000 in
theorem ggX7_seek_X7_spreads : GoodIn wsX7_seek wsX7_spreads := goodIn_r _ [55, 24, 56, 57, 58, 12, 59, 14, 60, 25, 75, 76, 77, 78, 79, 80, 81, 82, 83, 84, 85, 86, 87, 88, 89, 90, 91, 92, 93, 94, 95, 96, 97, 98, 99, 100, 101, 102, 103, 104, 105, 106, 107, 108] (by decide +kernel) (by decide +kernel)
set_option maxRecDepth 20000 in
theorem gX7_seek_X7_spreads : GoodIn wsX7_seek (wsV RX7 142 RX7 yX7_spreads wsX7_spreads) := goodIn_app (goodIn_of _ (by decide +kernel)) ggX7_seek_X7_spreads
set_option maxRecDepth 20000 in
theorem ggX7_seek_X7_compare : GoodIn wsX7_seek wsX7_compare := goodIn_r _ [64, 4, 5, 65, 6, 66, 67, 68, 12, 69, 24, 9, 10, 11, 13, 14, 70, 71, 72, 73, 74, 75, 76, 77, 78, 79, 80, 81, 82, 83, 84, 85, 86, 87, 88, 89, 90, 91, 92, 93, 94, 95, 96, 97, 98, 99, 100, 101, 102, 103, 104, 105, 106, 107, 108] (by decide +kernel) (by decide +kernel)
set_option maxRecDepth 20000 in
theorem gX7_seek_X7_compare : GoodIn wsX7_seek (wsV RX7 179 RX7 yX7_compare wsX7_compare) := goodIn_app (goodIn_of _ (by decide +kernel)) ggX7_seek_X7_compare
theorem dX7_seek_0 : decode cX7_seek 0 = .ok (.iconst 0, 1) := by decide +kernel
theorem dX7_seek_1 : decode cX7_seek 1 = .ok (.istore_n 2, 1) := by decide +kernel
theorem dX7_seek_2 : decode cX7_seek 2 = .ok (.iload_n 2, 1) := by decide +kernel
theorem dX7_seek_3 : decode cX7_seek 3 = .ok (.aload_n 0, 1) := by decide +kernel
theorem dX7_seek_4 : decode cX7_seek 4 = .ok (.invokevirtual 72, 3) := by decide +kernel
theorem dX7_seek_7 : decode cX7_seek 7 = .ok (.if_icmp .gt 20, 3) := by decide +kernel
theorem dX7_seek_10 : decode cX7_seek 10 = .ok (.aload_n 0, 1) := by decide +kernel
theorem dX7_seek_11 : decode cX7_seek 11 = .ok (.getfield 53, 3) := by decide +kernel
theorem dX7_seek_14 : decode cX7_seek 14 = .ok (.iload_n 2, 1) := by decide +kernel
theorem dX7_seek_15 : decode cX7_seek 15 = .ok (.aload_n 0, 1) := by decide +kernel
theorem dX7_seek_16 : decode cX7_seek 16 = .ok (.iload_n 2, 1) := by decide +kernel
theorem dX7_seek_17 : decode cX7_seek 17 = .ok (.invokevirtual 115, 3) := by decide +kernel
theorem dX7_seek_20 : decode cX7_seek 20 = .ok (.iastore, 1) := by decide +kernel
theorem dX7_seek_21 : decode cX7_seek 21 = .ok (.iinc 2 1, 3) := by decide +kernel
theorem dX7_seek_24 : decode cX7_seek 24 = .ok (.goto (-22), 3) := by decide +kernel
theorem dX7_seek_27 : decode cX7_seek 27 = .ok (.aload_n 0, 1) := by decide +kernel
theorem dX7_seek_28 : decode cX7_seek 28 = .ok (.iconst 0, 1) := by decide +kernel
theorem dX7_seek_29 : decode cX7_seek 29 = .ok (.putfield 164, 3) := by decide +kernel
theorem dX7_seek_32 : decode cX7_seek 32 = .ok (.aload_n 0, 1) := by decide +kernel
theorem dX7_seek_33 : decode cX7_seek 33 = .ok (.iconst 0, 1) := by decide +kernel
theorem dX7_seek_34 : decode cX7_seek 34 = .ok (.putfield 167, 3) := by decide +kernel
theorem dX7_seek_37 : decode cX7_seek 37 = .ok (.aload_n 0, 1) := by decide +kernel
theorem dX7_seek_38 : decode cX7_seek 38 = .ok (.iconst (-1), 1) := by decide +kernel
theorem dX7_seek_39 : decode cX7_seek 39 = .ok (.putfield 158, 3) := by decide +kernel
theorem dX7_seek_42 : decode cX7_seek 42 = .ok (.aload_n 0, 1) := by decide +kernel
theorem dX7_seek_43 : decode cX7_seek 43 = .ok (.iconst 0, 1) := by decide +kernel
theorem dX7_seek_44 : decode cX7_seek 44 = .ok (.putfield 161, 3) := by decide +kernel
theorem dX7_seek_47 : decode cX7_seek 47 = .ok (.aload_n 0, 1) := by decide +kernel
theorem dX7_seek_48 : decode cX7_seek 48 = .ok (.iload_n 1, 1) := by decide +kernel
theorem dX7_seek_49 : decode cX7_seek 49 = .ok (.invokevirtual 123, 3) := by decide +kernel
theorem dX7_seek_52 : decode cX7_seek 52 = .ok (.aload_n 0, 1) := by decide +kernel
theorem dX7_seek_53 : decode cX7_seek 53 = .ok (.iconst 1, 1) := by decide +kernel
theorem dX7_seek_54 : decode cX7_seek 54 = .ok (.invokevirtual 133, 3) := by decide +kernel
theorem dX7_seek_57 : decode cX7_seek 57 = .ok (.aload_n 0, 1) := by decide +kernel
theorem dX7_seek_58 : decode cX7_seek 58 = .ok (.iconst 1, 1) := by decide +kernel
theorem dX7_seek_59 : decode cX7_seek 59 = .ok (.invokevirtual 170, 3) := by decide +kernel
theorem dX7_seek_62 : decode cX7_seek 62 = .ok (.iconst 1, 1) := by decide +kernel
theorem dX7_seek_63 : decode cX7_seek 63 = .ok (.istore_n 2, 1) := by decide +kernel
theorem dX7_seek_64 : decode cX7_seek 64 = .ok (.iload_n 2, 1) := by decide +kernel
theorem dX7_seek_65 : decode cX7_seek 65 = .ok (.ifCond .le 168, 3) := by decide +kernel
theorem dX7_seek_68 : decode cX7_seek 68 = .ok (.aload_n 0, 1) := by decide +kernel
theorem dX7_seek_69 : decode cX7_seek 69 = .ok (.getfield 167, 3) := by decide +kernel
theorem dX7_seek_72 : decode cX7_seek 72 = .ok (.ifCond .ne 161, 3) := by decide +kernel
theorem dX7_seek_75 : decode cX7_seek 75 = .ok (.aload_n 0, 1) := by decide +kernel
theorem dX7_seek_76 : decode cX7_seek 76 = .ok (.iload_n 2, 1) := by decide +kernel
theorem dX7_seek_77 : decode cX7_seek 77 = .ok (.invokevirtual 173, 3) := by decide +kernel
theorem dX7_seek_80 : decode cX7_seek 80 = .ok (.aload_n 0, 1) := by decide +kernel
theorem dX7_seek_81 : decode cX7_seek 81 = .ok (.getfield 38, 3) := by decide +kernel
theorem dX7_seek_84 : decode cX7_seek 84 = .ok (.iload_n 2, 1) := by decide +kernel
theorem dX7_seek_85 : decode cX7_seek 85 = .ok (.iaload, 1) := by decide +kernel
theorem dX7_seek_86 : decode cX7_seek 86 = .ok (.aload_n 0, 1) := by decide +kernel
theorem dX7_seek_87 : decode cX7_seek 87 = .ok (.invokevirtual 72, 3) := by decide +kernel
theorem dX7_seek_90 : decode cX7_seek 90 = .ok (.if_icmp .le 14, 3) := by decide +kernel
theorem dX7_seek_93 : decode cX7_seek 93 = .ok (.iinc 2 (-1), 3) := by decide +kernel
theorem dX7_seek_96 : decode cX7_seek 96 = .ok (.aload_n 0, 1) := by decide +kernel
theorem dX7_seek_97 : decode cX7_seek 97 = .ok (.iload_n 2, 1) := by decide +kernel
theorem dX7_seek_98 : decode cX7_seek 98 = .ok (.invokevirtual 176, 3) := by decide +kernel
theorem dX7_seek_101 : decode cX7_seek 101 = .ok (.goto (-37), 3) := by decide +kernel
theorem dX7_seek_104 : decode cX7_seek 104 = .ok (.aload_n 0, 1) := by decide +kernel
theorem dX7_seek_105 : decode cX7_seek 105 = .ok (.getfield 53, 3) := by decide +kernel
theorem dX7_seek_108 : decode cX7_seek 108 = .ok (.aload_n 0, 1) := by decide +kernel
theorem dX7_seek_109 : decode cX7_seek 109 = .ok (.getfield 38, 3) := by decide +kernel
theorem dX7_seek_112 : decode cX7_seek 112 = .ok (.iload_n 2, 1) := by decide +kernel
theorem dX7_seek_113 : decode cX7_seek 113 = .ok (.iaload, 1) := by decide +kernel
theorem dX7_seek_114 : decode cX7_seek 114 = .ok (.iaload, 1) := by decide +kernel
theorem dX7_seek_115 : decode cX7_seek 115 = .ok (.aload_n 0, 1) := by decide +kernel
theorem dX7_seek_116 : decode cX7_seek 116 = .ok (.getfield 109, 3) := by decide +kernel
theorem dX7_seek_119 : decode cX7_seek 119 = .ok (.if_icmp .le 11, 3) := by decide +kernel
theorem dX7_seek_122 : decode cX7_seek 122 = .ok (.aload_n 0, 1) := by decide +kernel
theorem dX7_seek_123 : decode cX7_seek 123 = .ok (.iload_n 2, 1) := by decide +kernel
theorem dX7_seek_124 : decode cX7_seek 124 = .ok (.invokevirtual 176, 3) := by decide +kernel
theorem dX7_seek_127 : decode cX7_seek 127 = .ok (.goto (-63), 3) := by decide +kernel
theorem dX7_seek_130 : decode cX7_seek 130 = .ok (.aload_n 0, 1) := by decide +kernel
theorem dX7_seek_131 : decode cX7_seek 131 = .ok (.getfield 164, 3) := by decide +kernel
theorem dX7_seek_134 : decode cX7_seek 134 = .ok (.aload_n 0, 1) := by decide +kernel
theorem dX7_seek_135 : decode cX7_seek 135 = .ok (.getfield 29, 3) := by decide +kernel
theorem dX7_seek_138 : decode cX7_seek 138 = .ok (.if_icmp .ne 11, 3) := by decide +kernel
theorem dX7_seek_141 : decode cX7_seek 141 = .ok (.aload_n 0, 1) := by decide +kernel
theorem dX7_seek_142 : decode cX7_seek 142 = .ok (.iconst 1, 1) := by decide +kernel
theorem dX7_seek_143 : decode cX7_seek 143 = .ok (.putfield 167, 3) := by decide +kernel
theorem dX7_seek_146 : decode cX7_seek 146 = .ok (.goto (-82), 3) := by decide +kernel
theorem dX7_seek_149 : decode cX7_seek 149 = .ok (.aload_n 0, 1) := by decide +kernel
theorem dX7_seek_150 : decode cX7_seek 150 = .ok (.dup, 1) := by decide +kernel
theorem dX7_seek_151 : decode cX7_seek 151 = .ok (.getfield 164, 3) := by decide +kernel
theorem dX7_seek_154 : decode cX7_seek 154 = .ok (.iconst 1, 1) := by decide +kernel
theorem dX7_seek_155 : decode cX7_seek 155 = .ok (.iadd, 1) := by decide +kernel
theorem dX7_seek_156 : decode cX7_seek 156 = .ok (.putfield 164, 3) := by decide +kernel
theorem dX7_seek_159 : decode cX7_seek 159 = .ok (.aload_n 0, 1) := by decide +kernel
theorem dX7_seek_160 : decode cX7_seek 160 = .ok (.aload_n 0, 1) := by decide +kernel
theorem dX7_seek_161 : decode cX7_seek 161 = .ok (.getfield 38, 3) := by decide +kernel
theorem dX7_seek_164 : decode cX7_seek 164 = .ok (.iload_n 2, 1) := by decide +kernel
theorem dX7_seek_165 : decode cX7_seek 165 = .ok (.iaload, 1) := by decide +kernel
theorem dX7_seek_166 : decode cX7_seek 166 = .ok (.invokevirtual 139, 3) := by decide +kernel
theorem dX7_seek_169 : decode cX7_seek 169 = .ok (.aload_n 0, 1) := by decide +kernel
theorem dX7_seek_170 : decode cX7_seek 170 = .ok (.invokevirtual 142, 3) := by decide +kernel
theorem dX7_seek_173 : decode cX7_seek 173 = .ok (.istore_n 3, 1) := by decide +kernel
theorem dX7_seek_174 : decode cX7_seek 174 = .ok (.iload_n 3, 1) := by decide +kernel
theorem dX7_seek_175 : decode cX7_seek 175 = .ok (.ifCond .eq 25, 3) := by decide +kernel
theorem dX7_seek_178 : decode cX7_seek 178 = .ok (.iload_n 2, 1) := by decide +kernel
theorem dX7_seek_179 : decode cX7_seek 179 = .ok (.bipush 8, 2) := by decide +kernel
theorem dX7_seek_181 : decode cX7_seek 181 = .ok (.if_icmp .ge 19, 3) := by decide +kernel
theorem dX7_seek_184 : decode cX7_seek 184 = .ok (.iinc 2 1, 3) := by decide +kernel
theorem dX7_seek_187 : decode cX7_seek 187 = .ok (.aload_n 0, 1) := by decide +kernel
theorem dX7_seek_188 : decode cX7_seek 188 = .ok (.iload_n 2, 1) := by decide +kernel
theorem dX7_seek_189 : decode cX7_seek 189 = .ok (.invokevirtual 133, 3) := by decide +kernel
theorem dX7_seek_192 : decode cX7_seek 192 = .ok (.aload_n 0, 1) := by decide +kernel
theorem dX7_seek_193 : decode cX7_seek 193 = .ok (.iload_n 2, 1) := by decide +kernel
theorem dX7_seek_194 : decode cX7_seek 194 = .ok (.invokevirtual 170, 3) := by decide +kernel
theorem dX7_seek_197 : decode cX7_seek 197 = .ok (.goto 33, 3) := by decide +kernel
theorem dX7_seek_200 : decode cX7_seek 200 = .ok (.iload_n 2, 1) := by decide +kernel
theorem dX7_seek_201 : decode cX7_seek 201 = .ok (.istore 4, 2) := by decide +kernel
theorem dX7_seek_203 : decode cX7_seek 203 = .ok (.iload_n 3, 1) := by decide +kernel
theorem dX7_seek_204 : decode cX7_seek 204 = .ok (.ifCond .eq 14, 3) := by decide +kernel
theorem dX7_seek_207 : decode cX7_seek 207 = .ok (.iinc 4 1, 3) := by decide +kernel
theorem dX7_seek_210 : decode cX7_seek 210 = .ok (.aload_n 0, 1) := by decide +kernel
theorem dX7_seek_211 : decode cX7_seek 211 = .ok (.invokevirtual 142, 3) := by decide +kernel
theorem dX7_seek_214 : decode cX7_seek 214 = .ok (.istore_n 3, 1) := by decide +kernel
theorem dX7_seek_215 : decode cX7_seek 215 = .ok (.goto (-12), 3) := by decide +kernel
theorem dX7_seek_218 : decode cX7_seek 218 = .ok (.aload_n 0, 1) := by decide +kernel
theorem dX7_seek_219 : decode cX7_seek 219 = .ok (.iload 4, 2) := by decide +kernel
theorem dX7_seek_221 : decode cX7_seek 221 = .ok (.iload_n 2, 1) := by decide +kernel
theorem dX7_seek_222 : decode cX7_seek 222 = .ok (.invokevirtual 179, 3) := by decide +kernel
theorem dX7_seek_225 : decode cX7_seek 225 = .ok (.aload_n 0, 1) := by decide +kernel
theorem dX7_seek_226 : decode cX7_seek 226 = .ok (.iload_n 2, 1) := by decide +kernel
theorem dX7_seek_227 : decode cX7_seek 227 = .ok (.invokevirtual 176, 3) := by decide +kernel
theorem dX7_seek_230 : decode cX7_seek 230 = .ok (.goto (-166), 3) := by decide +kernel
theorem dX7_seek_233 : decode cX7_seek 233 = .ok (.return_, 1) := by decide +kernel
set_option maxRecDepth 20000 in
theorem ggX7_best_X7_isFire : GoodIn wsX7_best wsX7_isFire := goodIn_r _ [11, 12, 13, 14, 10, 15, 16, 17, 18, 19, 87, 88, 89, 90, 91, 92, 93, 94, 95, 96, 97, 98, 99, 100, 101, 102, 103, 104, 105, 106, 107, 108, 109, 110, 111, 112, 113, 114, 115, 116, 117, 118, 119, 120] (by decide +kernel) (by decide +kernel)
set_option maxRecDepth 20000 in
theorem gX7_best_X7_isFire : GoodIn wsX7_best (wsV RX7 146 RX7 yX7_isFire wsX7_isFire) := goodIn_app (goodIn_of _ (by decide +kernel)) ggX7_best_X7_isFire
set_option maxRecDepth 20000 in
theorem ggX7_best_X7_in : GoodIn wsX7_best wsX7_in := goodIn_r _ [19] (by decide +kernel) (by decide +kernel)
set_option maxRecDepth 20000 in
theorem gX7_best_X7_in : GoodIn wsX7_best (va_wsS RX7 68 yX7_in wsX7_in) := goodIn_app (goodIn_of _ (by decide +kernel)) ggX7_best_X7_in
set_option maxRecDepth 20000 in
theorem ggX7_best_X7_seek : GoodIn wsX7_best wsX7_seek := goodIn_r _ [23, 24, 3, 4, 2, 5, 25, 26, 27, 12, 13, 14, 10, 15, 16, 28, 29, 30, 31, 32, 33, 34, 35, 36, 37, 38, 39, 40, 41, 42, 43, 44, 45, 46, 47, 48, 49, 50, 51, 52, 53, 54, 55, 56, 57, 58, 59, 60, 61, 62, 63, 64, 65, 66, 67, 68, 69, 70, 71, 72, 73, 74, 75, 76, 77, 6, 78, 79, 80, 81, 82, 83, 84, 85, 86, 87, 88, 89, 90, 91, 92, 93, 94, 95, 96, 97, 98, 99, 100, 101, 102, 103, 104, 105, 106, 107, 108, 109, 110, 111, 112, 113, 114, 115, 116, 117, 118, 119, 120] (by decide +kernel) (by decide +kernel)
set_option maxRecDepth 20000 in
theorem gX7_best_X7_seek : GoodIn wsX7_best (wsV RX7 184 RX7 yX7_seek wsX7_seek) := goodIn_app (goodIn_of _ (by decide +kernel)) ggX7_best_X7_seek
theorem dX7_best_0 : decode cX7_best 0 = .ok (.aload_n 0, 1) := by decide +kernel
theorem dX7_best_1 : decode cX7_best 1 = .ok (.iload_n 1, 1) := by decide +kernel
theorem dX7_best_2 : decode cX7_best 2 = .ok (.invokevirtual 146, 3) := by decide +kernel
theorem dX7_best_5 : decode cX7_best 5 = .ok (.ifCond .eq 15, 3) := by decide +kernel
theorem dX7_best_8 : decode cX7_best 8 = .ok (.iload_n 2, 1) := by decide +kernel
theorem dX7_best_9 : decode cX7_best 9 = .ok (.i2l, 1) := by decide +kernel
theorem dX7_best_10 : decode cX7_best 10 = .ok (.lconst 0, 1) := by decide +kernel
theorem dX7_best_11 : decode cX7_best 11 = .ok (.ldc2_w 182, 3) := by decide +kernel
theorem dX7_best_14 : decode cX7_best 14 = .ok (.invokestatic 68, 3) := by decide +kernel
theorem dX7_best_17 : decode cX7_best 17 = .ok (.ifCond .ne 7, 3) := by decide +kernel
theorem dX7_best_20 : decode cX7_best 20 = .ok (.sipush (-1002), 3) := by decide +kernel
theorem dX7_best_23 : decode cX7_best 23 = .ok (.ireturn, 1) := by decide +kernel
theorem dX7_best_24 : decode cX7_best 24 = .ok (.aload_n 0, 1) := by decide +kernel
theorem dX7_best_25 : decode cX7_best 25 = .ok (.iload_n 1, 1) := by decide +kernel
theorem dX7_best_26 : decode cX7_best 26 = .ok (.invokevirtual 184, 3) := by decide +kernel
theorem dX7_best_29 : decode cX7_best 29 = .ok (.iload_n 2, 1) := by decide +kernel
theorem dX7_best_30 : decode cX7_best 30 = .ok (.ifCond .ne 10, 3) := by decide +kernel
theorem dX7_best_33 : decode cX7_best 33 = .ok (.aload_n 0, 1) := by decide +kernel
theorem dX7_best_34 : decode cX7_best 34 = .ok (.getfield 158, 3) := by decide +kernel
theorem dX7_best_37 : decode cX7_best 37 = .ok (.goto 55, 3) := by decide +kernel
theorem dX7_best_40 : decode cX7_best 40 = .ok (.iload_n 2, 1) := by decide +kernel
theorem dX7_best_41 : decode cX7_best 41 = .ok (.iconst 1, 1) := by decide +kernel
theorem dX7_best_42 : decode cX7_best 42 = .ok (.if_icmp .ne 10, 3) := by decide +kernel
theorem dX7_best_45 : decode cX7_best 45 = .ok (.aload_n 0, 1) := by decide +kernel
theorem dX7_best_46 : decode cX7_best 46 = .ok (.getfield 164, 3) := by decide +kernel
theorem dX7_best_49 : decode cX7_best 49 = .ok (.goto 43, 3) := by decide +kernel
theorem dX7_best_52 : decode cX7_best 52 = .ok (.iload_n 2, 1) := by decide +kernel
theorem dX7_best_53 : decode cX7_best 53 = .ok (.iconst 2, 1) := by decide +kernel
theorem dX7_best_54 : decode cX7_best 54 = .ok (.if_icmp .ne 18, 3) := by decide +kernel
theorem dX7_best_57 : decode cX7_best 57 = .ok (.aload_n 0, 1) := by decide +kernel
theorem dX7_best_58 : decode cX7_best 58 = .ok (.getfield 167, 3) := by decide +kernel
theorem dX7_best_61 : decode cX7_best 61 = .ok (.ifCond .eq 7, 3) := by decide +kernel
theorem dX7_best_64 : decode cX7_best 64 = .ok (.iconst 1, 1) := by decide +kernel
theorem dX7_best_65 : decode cX7_best 65 = .ok (.goto 27, 3) := by decide +kernel
theorem dX7_best_68 : decode cX7_best 68 = .ok (.iconst 0, 1) := by decide +kernel
theorem dX7_best_69 : decode cX7_best 69 = .ok (.goto 23, 3) := by decide +kernel
theorem dX7_best_72 : decode cX7_best 72 = .ok (.iload_n 2, 1) := by decide +kernel
theorem dX7_best_73 : decode cX7_best 73 = .ok (.iconst 3, 1) := by decide +kernel
theorem dX7_best_74 : decode cX7_best 74 = .ok (.if_icmp .ne 10, 3) := by decide +kernel
theorem dX7_best_77 : decode cX7_best 77 = .ok (.aload_n 0, 1) := by decide +kernel
theorem dX7_best_78 : decode cX7_best 78 = .ok (.getfield 161, 3) := by decide +kernel
theorem dX7_best_81 : decode cX7_best 81 = .ok (.goto 11, 3) := by decide +kernel
theorem dX7_best_84 : decode cX7_best 84 = .ok (.aload_n 0, 1) := by decide +kernel
theorem dX7_best_85 : decode cX7_best 85 = .ok (.getfield 50, 3) := by decide +kernel
theorem dX7_best_88 : decode cX7_best 88 = .ok (.iload_n 2, 1) := by decide +kernel
theorem dX7_best_89 : decode cX7_best 89 = .ok (.iconst 3, 1) := by decide +kernel
theorem dX7_best_90 : decode cX7_best 90 = .ok (.isub, 1) := by decide +kernel
theorem dX7_best_91 : decode cX7_best 91 = .ok (.iaload, 1) := by decide +kernel
theorem dX7_best_92 : decode cX7_best 92 = .ok (.ireturn, 1) := by decide +kernel
set_option maxRecDepth 20000 in
theorem ggX7_take_X7_isFire : GoodIn wsX7_take wsX7_isFire := goodIn_r _ [8, 9, 10, 11, 7, 12, 13, 14, 15, 16, 87, 88, 89, 90, 91, 92, 93, 94, 95, 96, 97, 98, 99, 100, 101, 102, 103, 104, 105, 106, 107, 108, 109, 110, 111, 112, 113, 114, 115, 116, 117, 118, 119, 120] (by decide +kernel) (by decide +kernel)
set_option maxRecDepth 20000 in
theorem gX7_take_X7_isFire : GoodIn wsX7_take (wsV RX7 146 RX7 yX7_isFire wsX7_isFire) := goodIn_app (goodIn_of _ (by decide +kernel)) ggX7_take_X7_isFire
set_option maxRecDepth 20000 in
theorem ggX7_take_X7_seek : GoodIn wsX7_take wsX7_seek := goodIn_r _ [20, 21, 22, 23, 3, 24, 25, 26, 27, 9, 10, 11, 7, 12, 13, 28, 29, 30, 31, 32, 33, 34, 35, 36, 37, 38, 39, 40, 41, 42, 43, 44, 45, 46, 47, 48, 49, 50, 51, 52, 53, 54, 55, 56, 57, 58, 59, 60, 61, 62, 63, 64, 65, 66, 67, 68, 69, 70, 71, 72, 73, 74, 75, 76, 77, 2, 78, 79, 80, 81, 82, 83, 84, 85, 86, 87, 88, 89, 90, 91, 92, 93, 94, 95, 96, 97, 98, 99, 100, 101, 102, 103, 104, 105, 106, 107, 108, 109, 110, 111, 112, 113, 114, 115, 116, 117, 118, 119, 120] (by decide +kernel) (by decide +kernel)
set_option maxRecDepth 20000 in
theorem gX7_take_X7_seek : GoodIn wsX7_take (wsV RX7 184 RX7 yX7_seek wsX7_seek) := goodIn_app (goodIn_of _ (by decide +kernel)) ggX7_take_X7_seek
theorem dX7_take_0 : decode cX7_take 0 = .ok (.aload_n 0, 1) := by decide +kernel
theorem dX7_take_1 : decode cX7_take 1 = .ok (.iload_n 1, 1) := by decide +kernel
theorem dX7_take_2 : decode cX7_take 2 = .ok (.invokevirtual 146, 3) := by decide +kernel
theorem dX7_take_5 : decode cX7_take 5 = .ok (.ifCond .ne 7, 3) := by decide +kernel
theorem dX7_take_8 : decode cX7_take 8 = .ok (.sipush (-1002), 3) := by decide +kernel
theorem dX7_take_11 : decode cX7_take 11 = .ok (.ireturn, 1) := by decide +kernel
theorem dX7_take_12 : decode cX7_take 12 = .ok (.aload_n 0, 1) := by decide +kernel
theorem dX7_take_13 : decode cX7_take 13 = .ok (.iload_n 1, 1) := by decide +kernel
theorem dX7_take_14 : decode cX7_take 14 = .ok (.invokevirtual 184, 3) := by decide +kernel
theorem dX7_take_17 : decode cX7_take 17 = .ok (.iconst 1, 1) := by decide +kernel
theorem dX7_take_18 : decode cX7_take 18 = .ok (.istore_n 2, 1) := by decide +kernel
theorem dX7_take_19 : decode cX7_take 19 = .ok (.iload_n 2, 1) := by decide +kernel
theorem dX7_take_20 : decode cX7_take 20 = .ok (.bipush 8, 2) := by decide +kernel
theorem dX7_take_22 : decode cX7_take 22 = .ok (.if_icmp .gt 21, 3) := by decide +kernel
theorem dX7_take_25 : decode cX7_take 25 = .ok (.aload_n 0, 1) := by decide +kernel
theorem dX7_take_26 : decode cX7_take 26 = .ok (.getfield 32, 3) := by decide +kernel
theorem dX7_take_29 : decode cX7_take 29 = .ok (.iload_n 2, 1) := by decide +kernel
theorem dX7_take_30 : decode cX7_take 30 = .ok (.aload_n 0, 1) := by decide +kernel
theorem dX7_take_31 : decode cX7_take 31 = .ok (.getfield 50, 3) := by decide +kernel
theorem dX7_take_34 : decode cX7_take 34 = .ok (.iload_n 2, 1) := by decide +kernel
theorem dX7_take_35 : decode cX7_take 35 = .ok (.iaload, 1) := by decide +kernel
theorem dX7_take_36 : decode cX7_take 36 = .ok (.iastore, 1) := by decide +kernel
theorem dX7_take_37 : decode cX7_take 37 = .ok (.iinc 2 1, 3) := by decide +kernel
theorem dX7_take_40 : decode cX7_take 40 = .ok (.goto (-21), 3) := by decide +kernel
theorem dX7_take_43 : decode cX7_take 43 = .ok (.aload_n 0, 1) := by decide +kernel
theorem dX7_take_44 : decode cX7_take 44 = .ok (.getfield 158, 3) := by decide +kernel
theorem dX7_take_47 : decode cX7_take 47 = .ok (.ireturn, 1) := by decide +kernel
set_option maxRecDepth 20000 in
theorem ggX7_least_X7_isFire : GoodIn wsX7_least wsX7_isFire := goodIn_r _ [9, 10, 11, 12, 8, 13, 14, 15, 16, 17, 88, 89, 90, 91, 92, 93, 94, 95, 96, 97, 98, 99, 100, 101, 102, 103, 104, 105, 106, 107, 108, 109, 110, 111, 112, 113, 114, 115, 116, 117, 118, 119, 120, 121] (by decide +kernel) (by decide +kernel)
set_option maxRecDepth 20000 in
theorem gX7_least_X7_isFire : GoodIn wsX7_least (wsV RX7 146 RX7 yX7_isFire wsX7_isFire) := goodIn_app (goodIn_of _ (by decide +kernel)) ggX7_least_X7_isFire
set_option maxRecDepth 20000 in
theorem ggX7_least_X7_in : GoodIn wsX7_least wsX7_in := goodIn_r _ [17] (by decide +kernel) (by decide +kernel)
set_option maxRecDepth 20000 in
theorem gX7_least_X7_in : GoodIn wsX7_least (va_wsS RX7 68 yX7_in wsX7_in) := goodIn_app (goodIn_of _ (by decide +kernel)) ggX7_least_X7_in
set_option maxRecDepth 20000 in
theorem ggX7_least_X7_seek : GoodIn wsX7_least wsX7_seek := goodIn_r _ [21, 22, 23, 24, 4, 25, 26, 27, 28, 10, 11, 12, 8, 13, 14, 29, 30, 31, 32, 33, 34, 35, 36, 37, 38, 39, 40, 41, 42, 43, 44, 45, 3, 46, 47, 48, 49, 50, 51, 52, 53, 54, 55, 56, 57, 58, 59, 60, 61, 62, 63, 64, 65, 66, 67, 68, 69, 70, 71, 72, 73, 74, 75, 76, 77, 78, 79, 80, 81, 82, 83, 84, 85, 86, 87, 88, 89, 90, 91, 92, 93, 94, 95, 96, 97, 98, 99, 100, 101, 102, 103, 104, 105, 106, 107, 108, 109, 110, 111, 112, 113, 114, 115, 116, 117, 118, 119, 120, 121] (by decide +kernel) (by decide +kernel)
set_option maxRecDepth 20000 in
theorem gX7_least_X7_seek : GoodIn wsX7_least (wsV RX7 184 RX7 yX7_seek wsX7_seek) := goodIn_app (goodIn_of _ (by decide +kernel)) ggX7_least_X7_seek
theorem dX7_least_0 : decode cX7_least 0 = .ok (.aload_n 0, 1) := by decide +kernel
theorem dX7_least_1 : decode cX7_least 1 = .ok (.iload_n 1, 1) := by decide +kernel
theorem dX7_least_2 : decode cX7_least 2 = .ok (.invokevirtual 146, 3) := by decide +kernel
theorem dX7_least_5 : decode cX7_least 5 = .ok (.ifCond .eq 15, 3) := by decide +kernel
theorem dX7_least_8 : decode cX7_least 8 = .ok (.iload_n 2, 1) := by decide +kernel
theorem dX7_least_9 : decode cX7_least 9 = .ok (.i2l, 1) := by decide +kernel
theorem dX7_least_10 : decode cX7_least 10 = .ok (.lconst 0, 1) := by decide +kernel
theorem dX7_least_11 : decode cX7_least 11 = .ok (.ldc2_w 187, 3) := by decide +kernel
theorem dX7_least_14 : decode cX7_least 14 = .ok (.invokestatic 68, 3) := by decide +kernel
theorem dX7_least_17 : decode cX7_least 17 = .ok (.ifCond .ne 7, 3) := by decide +kernel
theorem dX7_least_20 : decode cX7_least 20 = .ok (.sipush (-1002), 3) := by decide +kernel
theorem dX7_least_23 : decode cX7_least 23 = .ok (.ireturn, 1) := by decide +kernel
theorem dX7_least_24 : decode cX7_least 24 = .ok (.iconst 0, 1) := by decide +kernel
theorem dX7_least_25 : decode cX7_least 25 = .ok (.istore_n 3, 1) := by decide +kernel
theorem dX7_least_26 : decode cX7_least 26 = .ok (.iload_n 3, 1) := by decide +kernel
theorem dX7_least_27 : decode cX7_least 27 = .ok (.bipush 9, 2) := by decide +kernel
theorem dX7_least_29 : decode cX7_least 29 = .ok (.if_icmp .ge 21, 3) := by decide +kernel
theorem dX7_least_32 : decode cX7_least 32 = .ok (.aload_n 0, 1) := by decide +kernel
theorem dX7_least_33 : decode cX7_least 33 = .ok (.getfield 56, 3) := by decide +kernel
theorem dX7_least_36 : decode cX7_least 36 = .ok (.iload_n 3, 1) := by decide +kernel
theorem dX7_least_37 : decode cX7_least 37 = .ok (.aload_n 0, 1) := by decide +kernel
theorem dX7_least_38 : decode cX7_least 38 = .ok (.getfield 26, 3) := by decide +kernel
theorem dX7_least_41 : decode cX7_least 41 = .ok (.iload_n 3, 1) := by decide +kernel
theorem dX7_least_42 : decode cX7_least 42 = .ok (.iaload, 1) := by decide +kernel
theorem dX7_least_43 : decode cX7_least 43 = .ok (.iastore, 1) := by decide +kernel
theorem dX7_least_44 : decode cX7_least 44 = .ok (.iinc 3 1, 3) := by decide +kernel
theorem dX7_least_47 : decode cX7_least 47 = .ok (.goto (-21), 3) := by decide +kernel
theorem dX7_least_50 : decode cX7_least 50 = .ok (.iconst (-1), 1) := by decide +kernel
theorem dX7_least_51 : decode cX7_least 51 = .ok (.istore_n 3, 1) := by decide +kernel
theorem dX7_least_52 : decode cX7_least 52 = .ok (.iconst 0, 1) := by decide +kernel
theorem dX7_least_53 : decode cX7_least 53 = .ok (.istore 4, 2) := by decide +kernel
theorem dX7_least_55 : decode cX7_least 55 = .ok (.iload 4, 2) := by decide +kernel
theorem dX7_least_57 : decode cX7_least 57 = .ok (.bipush 20, 2) := by decide +kernel
theorem dX7_least_59 : decode cX7_least 59 = .ok (.if_icmp .gt 58, 3) := by decide +kernel
theorem dX7_least_62 : decode cX7_least 62 = .ok (.iload_n 3, 1) := by decide +kernel
theorem dX7_least_63 : decode cX7_least 63 = .ok (.ifCond .ge 54, 3) := by decide +kernel
theorem dX7_least_66 : decode cX7_least 66 = .ok (.iconst 1, 1) := by decide +kernel
theorem dX7_least_67 : decode cX7_least 67 = .ok (.istore 5, 2) := by decide +kernel
theorem dX7_least_69 : decode cX7_least 69 = .ok (.iload 5, 2) := by decide +kernel
theorem dX7_least_71 : decode cX7_least 71 = .ok (.bipush 8, 2) := by decide +kernel
theorem dX7_least_73 : decode cX7_least 73 = .ok (.if_icmp .gt 18, 3) := by decide +kernel
theorem dX7_least_76 : decode cX7_least 76 = .ok (.aload_n 0, 1) := by decide +kernel
theorem dX7_least_77 : decode cX7_least 77 = .ok (.getfield 26, 3) := by decide +kernel
theorem dX7_least_80 : decode cX7_least 80 = .ok (.iload 5, 2) := by decide +kernel
theorem dX7_least_82 : decode cX7_least 82 = .ok (.iload 4, 2) := by decide +kernel
theorem dX7_least_84 : decode cX7_least 84 = .ok (.iastore, 1) := by decide +kernel
theorem dX7_least_85 : decode cX7_least 85 = .ok (.iinc 5 1, 3) := by decide +kernel
theorem dX7_least_88 : decode cX7_least 88 = .ok (.goto (-19), 3) := by decide +kernel
theorem dX7_least_91 : decode cX7_least 91 = .ok (.aload_n 0, 1) := by decide +kernel
theorem dX7_least_92 : decode cX7_least 92 = .ok (.iload_n 1, 1) := by decide +kernel
theorem dX7_least_93 : decode cX7_least 93 = .ok (.invokevirtual 184, 3) := by decide +kernel
theorem dX7_least_96 : decode cX7_least 96 = .ok (.aload_n 0, 1) := by decide +kernel
theorem dX7_least_97 : decode cX7_least 97 = .ok (.getfield 158, 3) := by decide +kernel
theorem dX7_least_100 : decode cX7_least 100 = .ok (.iload_n 2, 1) := by decide +kernel
theorem dX7_least_101 : decode cX7_least 101 = .ok (.if_icmp .lt 8, 3) := by decide +kernel
theorem dX7_least_104 : decode cX7_least 104 = .ok (.iload 4, 2) := by decide +kernel
theorem dX7_least_106 : decode cX7_least 106 = .ok (.goto 4, 3) := by decide +kernel
theorem dX7_least_109 : decode cX7_least 109 = .ok (.iconst (-1), 1) := by decide +kernel
theorem dX7_least_110 : decode cX7_least 110 = .ok (.istore_n 3, 1) := by decide +kernel
theorem dX7_least_111 : decode cX7_least 111 = .ok (.iinc 4 1, 3) := by decide +kernel
theorem dX7_least_114 : decode cX7_least 114 = .ok (.goto (-59), 3) := by decide +kernel
theorem dX7_least_117 : decode cX7_least 117 = .ok (.iconst 0, 1) := by decide +kernel
theorem dX7_least_118 : decode cX7_least 118 = .ok (.istore 4, 2) := by decide +kernel
theorem dX7_least_120 : decode cX7_least 120 = .ok (.iload 4, 2) := by decide +kernel
theorem dX7_least_122 : decode cX7_least 122 = .ok (.bipush 9, 2) := by decide +kernel
theorem dX7_least_124 : decode cX7_least 124 = .ok (.if_icmp .ge 23, 3) := by decide +kernel
theorem dX7_least_127 : decode cX7_least 127 = .ok (.aload_n 0, 1) := by decide +kernel
theorem dX7_least_128 : decode cX7_least 128 = .ok (.getfield 26, 3) := by decide +kernel
theorem dX7_least_131 : decode cX7_least 131 = .ok (.iload 4, 2) := by decide +kernel
theorem dX7_least_133 : decode cX7_least 133 = .ok (.aload_n 0, 1) := by decide +kernel
theorem dX7_least_134 : decode cX7_least 134 = .ok (.getfield 56, 3) := by decide +kernel
theorem dX7_least_137 : decode cX7_least 137 = .ok (.iload 4, 2) := by decide +kernel
theorem dX7_least_139 : decode cX7_least 139 = .ok (.iaload, 1) := by decide +kernel
theorem dX7_least_140 : decode cX7_least 140 = .ok (.iastore, 1) := by decide +kernel
theorem dX7_least_141 : decode cX7_least 141 = .ok (.iinc 4 1, 3) := by decide +kernel
theorem dX7_least_144 : decode cX7_least 144 = .ok (.goto (-24), 3) := by decide +kernel
theorem dX7_least_147 : decode cX7_least 147 = .ok (.iload_n 3, 1) := by decide +kernel
theorem dX7_least_148 : decode cX7_least 148 = .ok (.ireturn, 1) := by decide +kernel
theorem dX7_bits_0 : decode cX7_bits 0 = .ok (.iconst 0, 1) := by decide +kernel
theorem dX7_bits_1 : decode cX7_bits 1 = .ok (.istore_n 1, 1) := by decide +kernel
theorem dX7_bits_2 : decode cX7_bits 2 = .ok (.iconst 0, 1) := by decide +kernel
theorem dX7_bits_3 : decode cX7_bits 3 = .ok (.istore_n 2, 1) := by decide +kernel
theorem dX7_bits_4 : decode cX7_bits 4 = .ok (.iload_n 2, 1) := by decide +kernel
theorem dX7_bits_5 : decode cX7_bits 5 = .ok (.bipush 10, 2) := by decide +kernel
theorem dX7_bits_7 : decode cX7_bits 7 = .ok (.if_icmp .ge 17, 3) := by decide +kernel
theorem dX7_bits_10 : decode cX7_bits 10 = .ok (.iload_n 1, 1) := by decide +kernel
theorem dX7_bits_11 : decode cX7_bits 11 = .ok (.iload_n 0, 1) := by decide +kernel
theorem dX7_bits_12 : decode cX7_bits 12 = .ok (.iload_n 2, 1) := by decide +kernel
theorem dX7_bits_13 : decode cX7_bits 13 = .ok (.ishr, 1) := by decide +kernel
theorem dX7_bits_14 : decode cX7_bits 14 = .ok (.iconst 1, 1) := by decide +kernel
theorem dX7_bits_15 : decode cX7_bits 15 = .ok (.iand, 1) := by decide +kernel
theorem dX7_bits_16 : decode cX7_bits 16 = .ok (.iadd, 1) := by decide +kernel
theorem dX7_bits_17 : decode cX7_bits 17 = .ok (.istore_n 1, 1) := by decide +kernel
theorem dX7_bits_18 : decode cX7_bits 18 = .ok (.iinc 2 1, 3) := by decide +kernel
theorem dX7_bits_21 : decode cX7_bits 21 = .ok (.goto (-17), 3) := by decide +kernel
theorem dX7_bits_24 : decode cX7_bits 24 = .ok (.iload_n 1, 1) := by decide +kernel
theorem dX7_bits_25 : decode cX7_bits 25 = .ok (.ireturn, 1) := by decide +kernel
set_option maxRecDepth 20000 in
theorem ggX7_next_X7_near : GoodIn wsX7_next wsX7_near := goodIn_r _ [12, 1, 6, 5, 7, 16, 17, 18, 19, 20, 21, 22, 23, 24, 25, 26, 27, 28, 29, 30, 31, 32, 33, 34, 35, 36, 37, 38, 39, 40, 41, 42, 43, 44, 45, 46, 47, 48, 49] (by decide +kernel) (by decide +kernel)
set_option maxRecDepth 20000 in
theorem gX7_next_X7_near : GoodIn wsX7_next (wsV RX7 118 RX7 yX7_near wsX7_near) := goodIn_app (goodIn_of _ (by decide +kernel)) ggX7_next_X7_near
set_option maxRecDepth 20000 in
theorem ggX7_next_X7_bits : GoodIn wsX7_next wsX7_bits := goodIn_r _ [15] (by decide +kernel) (by decide +kernel)
set_option maxRecDepth 20000 in
theorem gX7_next_X7_bits : GoodIn wsX7_next (va_wsS RX7 189 yX7_bits wsX7_bits) := goodIn_app (goodIn_of _ (by decide +kernel)) ggX7_next_X7_bits
theorem dX7_next_0 : decode cX7_next 0 = .ok (.iconst (-1), 1) := by decide +kernel
theorem dX7_next_1 : decode cX7_next 1 = .ok (.istore_n 2, 1) := by decide +kernel
theorem dX7_next_2 : decode cX7_next 2 = .ok (.iconst (-1), 1) := by decide +kernel
theorem dX7_next_3 : decode cX7_next 3 = .ok (.istore_n 3, 1) := by decide +kernel
theorem dX7_next_4 : decode cX7_next 4 = .ok (.iconst 0, 1) := by decide +kernel
theorem dX7_next_5 : decode cX7_next 5 = .ok (.istore 4, 2) := by decide +kernel
theorem dX7_next_7 : decode cX7_next 7 = .ok (.iload 4, 2) := by decide +kernel
theorem dX7_next_9 : decode cX7_next 9 = .ok (.aload_n 0, 1) := by decide +kernel
theorem dX7_next_10 : decode cX7_next 10 = .ok (.getfield 7, 3) := by decide +kernel
theorem dX7_next_13 : decode cX7_next 13 = .ok (.if_icmp .ge 111, 3) := by decide +kernel
theorem dX7_next_16 : decode cX7_next 16 = .ok (.aload_n 0, 1) := by decide +kernel
theorem dX7_next_17 : decode cX7_next 17 = .ok (.invokevirtual 118, 3) := by decide +kernel
theorem dX7_next_20 : decode cX7_next 20 = .ok (.iload 4, 2) := by decide +kernel
theorem dX7_next_22 : decode cX7_next 22 = .ok (.ishr, 1) := by decide +kernel
theorem dX7_next_23 : decode cX7_next 23 = .ok (.iconst 1, 1) := by decide +kernel
theorem dX7_next_24 : decode cX7_next 24 = .ok (.iand, 1) := by decide +kernel
theorem dX7_next_25 : decode cX7_next 25 = .ok (.iconst 1, 1) := by decide +kernel
theorem dX7_next_26 : decode cX7_next 26 = .ok (.if_icmp .ne 92, 3) := by decide +kernel
theorem dX7_next_29 : decode cX7_next 29 = .ok (.aload_n 0, 1) := by decide +kernel
theorem dX7_next_30 : decode cX7_next 30 = .ok (.getfield 23, 3) := by decide +kernel
theorem dX7_next_33 : decode cX7_next 33 = .ok (.iload 4, 2) := by decide +kernel
theorem dX7_next_35 : decode cX7_next 35 = .ok (.iaload, 1) := by decide +kernel
theorem dX7_next_36 : decode cX7_next 36 = .ok (.aload_n 0, 1) := by decide +kernel
theorem dX7_next_37 : decode cX7_next 37 = .ok (.getfield 109, 3) := by decide +kernel
theorem dX7_next_40 : decode cX7_next 40 = .ok (.if_icmp .gt 78, 3) := by decide +kernel
theorem dX7_next_43 : decode cX7_next 43 = .ok (.iload_n 1, 1) := by decide +kernel
theorem dX7_next_44 : decode cX7_next 44 = .ok (.ifCond .ne 7, 3) := by decide +kernel
theorem dX7_next_47 : decode cX7_next 47 = .ok (.iconst 0, 1) := by decide +kernel
theorem dX7_next_48 : decode cX7_next 48 = .ok (.goto 42, 3) := by decide +kernel
theorem dX7_next_51 : decode cX7_next 51 = .ok (.iload_n 1, 1) := by decide +kernel
theorem dX7_next_52 : decode cX7_next 52 = .ok (.iconst 1, 1) := by decide +kernel
theorem dX7_next_53 : decode cX7_next 53 = .ok (.if_icmp .ne 13, 3) := by decide +kernel
theorem dX7_next_56 : decode cX7_next 56 = .ok (.aload_n 0, 1) := by decide +kernel
theorem dX7_next_57 : decode cX7_next 57 = .ok (.getfield 20, 3) := by decide +kernel
theorem dX7_next_60 : decode cX7_next 60 = .ok (.iload 4, 2) := by decide +kernel
theorem dX7_next_62 : decode cX7_next 62 = .ok (.iaload, 1) := by decide +kernel
theorem dX7_next_63 : decode cX7_next 63 = .ok (.goto 27, 3) := by decide +kernel
theorem dX7_next_66 : decode cX7_next 66 = .ok (.aload_n 0, 1) := by decide +kernel
theorem dX7_next_67 : decode cX7_next 67 = .ok (.getfield 17, 3) := by decide +kernel
theorem dX7_next_70 : decode cX7_next 70 = .ok (.iload 4, 2) := by decide +kernel
theorem dX7_next_72 : decode cX7_next 72 = .ok (.iaload, 1) := by decide +kernel
theorem dX7_next_73 : decode cX7_next 73 = .ok (.aload_n 0, 1) := by decide +kernel
theorem dX7_next_74 : decode cX7_next 74 = .ok (.getfield 103, 3) := by decide +kernel
theorem dX7_next_77 : decode cX7_next 77 = .ok (.iconst (-1), 1) := by decide +kernel
theorem dX7_next_78 : decode cX7_next 78 = .ok (.ixor, 1) := by decide +kernel
theorem dX7_next_79 : decode cX7_next 79 = .ok (.iand, 1) := by decide +kernel
theorem dX7_next_80 : decode cX7_next 80 = .ok (.aload_n 0, 1) := by decide +kernel
theorem dX7_next_81 : decode cX7_next 81 = .ok (.getfield 106, 3) := by decide +kernel
theorem dX7_next_84 : decode cX7_next 84 = .ok (.iconst (-1), 1) := by decide +kernel
theorem dX7_next_85 : decode cX7_next 85 = .ok (.ixor, 1) := by decide +kernel
theorem dX7_next_86 : decode cX7_next 86 = .ok (.iand, 1) := by decide +kernel
theorem dX7_next_87 : decode cX7_next 87 = .ok (.invokestatic 189, 3) := by decide +kernel
theorem dX7_next_90 : decode cX7_next 90 = .ok (.istore 5, 2) := by decide +kernel
theorem dX7_next_92 : decode cX7_next 92 = .ok (.iload 5, 2) := by decide +kernel
theorem dX7_next_94 : decode cX7_next 94 = .ok (.iload_n 3, 1) := by decide +kernel
theorem dX7_next_95 : decode cX7_next 95 = .ok (.if_icmp .le 8, 3) := by decide +kernel
theorem dX7_next_98 : decode cX7_next 98 = .ok (.iload 4, 2) := by decide +kernel
theorem dX7_next_100 : decode cX7_next 100 = .ok (.goto 4, 3) := by decide +kernel
theorem dX7_next_103 : decode cX7_next 103 = .ok (.iload_n 2, 1) := by decide +kernel
theorem dX7_next_104 : decode cX7_next 104 = .ok (.istore_n 2, 1) := by decide +kernel
theorem dX7_next_105 : decode cX7_next 105 = .ok (.iload 5, 2) := by decide +kernel
theorem dX7_next_107 : decode cX7_next 107 = .ok (.iload_n 3, 1) := by decide +kernel
theorem dX7_next_108 : decode cX7_next 108 = .ok (.if_icmp .le 8, 3) := by decide +kernel
theorem dX7_next_111 : decode cX7_next 111 = .ok (.iload 5, 2) := by decide +kernel
theorem dX7_next_113 : decode cX7_next 113 = .ok (.goto 4, 3) := by decide +kernel
theorem dX7_next_116 : decode cX7_next 116 = .ok (.iload_n 3, 1) := by decide +kernel
theorem dX7_next_117 : decode cX7_next 117 = .ok (.istore_n 3, 1) := by decide +kernel
theorem dX7_next_118 : decode cX7_next 118 = .ok (.iinc 4 1, 3) := by decide +kernel
theorem dX7_next_121 : decode cX7_next 121 = .ok (.goto (-114), 3) := by decide +kernel
theorem dX7_next_124 : decode cX7_next 124 = .ok (.iload_n 2, 1) := by decide +kernel
theorem dX7_next_125 : decode cX7_next 125 = .ok (.ireturn, 1) := by decide +kernel
set_option maxRecDepth 20000 in
theorem ggX7_liveOf_X7_light : GoodIn wsX7_liveOf wsX7_light := goodIn_r _ [5, 6, 7, 8, 9, 43, 44, 45, 46, 47, 48, 49, 50, 51, 52, 53, 54, 55, 56, 57, 58, 59, 60, 61, 62, 63, 64, 65, 66, 67, 68, 69, 70, 71, 72, 73, 74, 75, 76] (by decide +kernel) (by decide +kernel)
set_option maxRecDepth 20000 in
theorem gX7_liveOf_X7_light : GoodIn wsX7_liveOf (wsV RX7 123 RX7 yX7_light wsX7_light) := goodIn_app (goodIn_of _ (by decide +kernel)) ggX7_liveOf_X7_light
set_option maxRecDepth 20000 in
theorem ggX7_liveOf_X7_fill : GoodIn wsX7_liveOf wsX7_fill := goodIn_r _ [13, 14, 8, 15, 43, 44, 45, 46, 47, 48, 49, 50, 51, 52, 53, 54, 55, 56, 57, 58, 59, 60, 61, 62, 63, 64, 65, 66, 67, 68, 69, 70, 71, 72, 73, 74, 75, 76] (by decide +kernel) (by decide +kernel)
set_option maxRecDepth 20000 in
theorem gX7_liveOf_X7_fill : GoodIn wsX7_liveOf (wsV RX7 133 RX7 yX7_fill wsX7_fill) := goodIn_app (goodIn_of _ (by decide +kernel)) ggX7_liveOf_X7_fill
set_option maxRecDepth 20000 in
theorem ggX7_liveOf_X7_next : GoodIn wsX7_liveOf wsX7_next := goodIn_r _ [19, 20, 21, 8, 22, 23, 6, 7, 24, 25, 26, 4, 27, 28, 29, 30, 43, 44, 45, 46, 47, 48, 49, 50, 51, 52, 53, 54, 55, 56, 57, 58, 59, 60, 61, 62, 63, 64, 65, 66, 67, 68, 69, 70, 71, 72, 73, 74, 75, 76] (by decide +kernel) (by decide +kernel)
set_option maxRecDepth 20000 in
theorem gX7_liveOf_X7_next : GoodIn wsX7_liveOf (wsV RX7 192 RX7 yX7_next wsX7_next) := goodIn_app (goodIn_of _ (by decide +kernel)) ggX7_liveOf_X7_next
set_option maxRecDepth 20000 in
theorem ggX7_liveOf_X7_guard : GoodIn wsX7_liveOf wsX7_guard := goodIn_r _ [34, 7, 8, 9, 35, 36, 37, 4, 38, 20, 21, 43, 44, 45, 46, 47, 48, 49, 50, 51, 52, 53, 54, 55, 56, 57, 58, 59, 60, 61, 62, 63, 64, 65, 66, 67, 68, 69, 70, 71, 72, 73, 74, 75, 76] (by decide +kernel) (by decide +kernel)
set_option maxRecDepth 20000 in
theorem gX7_liveOf_X7_guard : GoodIn wsX7_liveOf (wsV RX7 139 RX7 yX7_guard wsX7_guard) := goodIn_app (goodIn_of _ (by decide +kernel)) ggX7_liveOf_X7_guard
set_option maxRecDepth 20000 in
theorem ggX7_liveOf_X7_spreads : GoodIn wsX7_liveOf wsX7_spreads := goodIn_r _ [42, 6, 24, 25, 26, 4, 27, 20, 23, 7, 43, 44, 45, 46, 47, 48, 49, 50, 51, 52, 53, 54, 55, 56, 57, 58, 59, 60, 61, 62, 63, 64, 65, 66, 67, 68, 69, 70, 71, 72, 73, 74, 75, 76] (by decide +kernel) (by decide +kernel)
set_option maxRecDepth 20000 in
theorem gX7_liveOf_X7_spreads : GoodIn wsX7_liveOf (wsV RX7 142 RX7 yX7_spreads wsX7_spreads) := goodIn_app (goodIn_of _ (by decide +kernel)) ggX7_liveOf_X7_spreads
