theorem dX7_liveOf_0 : decode cX7_liveOf 0 = .ok (.aload_n 0, 1) := by decide +kernel
theorem dX7_liveOf_1 : decode cX7_liveOf 1 = .ok (.iload_n 2, 1) := by decide +kernel
theorem dX7_liveOf_2 : decode cX7_liveOf 2 = .ok (.invokevirtual 123, 3) := by decide +kernel
theorem dX7_liveOf_5 : decode cX7_liveOf 5 = .ok (.iconst 0, 1) := by decide +kernel
theorem dX7_liveOf_6 : decode cX7_liveOf 6 = .ok (.istore_n 3, 1) := by decide +kernel
theorem dX7_liveOf_7 : decode cX7_liveOf 7 = .ok (.iconst 1, 1) := by decide +kernel
theorem dX7_liveOf_8 : decode cX7_liveOf 8 = .ok (.istore 4, 2) := by decide +kernel
theorem dX7_liveOf_10 : decode cX7_liveOf 10 = .ok (.iload 4, 2) := by decide +kernel
theorem dX7_liveOf_12 : decode cX7_liveOf 12 = .ok (.ifCond .eq 50, 3) := by decide +kernel
theorem dX7_liveOf_15 : decode cX7_liveOf 15 = .ok (.iinc 3 1, 3) := by decide +kernel
theorem dX7_liveOf_18 : decode cX7_liveOf 18 = .ok (.aload_n 0, 1) := by decide +kernel
theorem dX7_liveOf_19 : decode cX7_liveOf 19 = .ok (.iload_n 3, 1) := by decide +kernel
theorem dX7_liveOf_20 : decode cX7_liveOf 20 = .ok (.invokevirtual 133, 3) := by decide +kernel
theorem dX7_liveOf_23 : decode cX7_liveOf 23 = .ok (.aload_n 0, 1) := by decide +kernel
theorem dX7_liveOf_24 : decode cX7_liveOf 24 = .ok (.iload_n 1, 1) := by decide +kernel
theorem dX7_liveOf_25 : decode cX7_liveOf 25 = .ok (.invokevirtual 192, 3) := by decide +kernel
theorem dX7_liveOf_28 : decode cX7_liveOf 28 = .ok (.istore 5, 2) := by decide +kernel
theorem dX7_liveOf_30 : decode cX7_liveOf 30 = .ok (.iload 5, 2) := by decide +kernel
theorem dX7_liveOf_32 : decode cX7_liveOf 32 = .ok (.ifCond .lt 21, 3) := by decide +kernel
theorem dX7_liveOf_35 : decode cX7_liveOf 35 = .ok (.aload_n 0, 1) := by decide +kernel
theorem dX7_liveOf_36 : decode cX7_liveOf 36 = .ok (.iconst 1, 1) := by decide +kernel
theorem dX7_liveOf_37 : decode cX7_liveOf 37 = .ok (.iload 5, 2) := by decide +kernel
theorem dX7_liveOf_39 : decode cX7_liveOf 39 = .ok (.ishl, 1) := by decide +kernel
theorem dX7_liveOf_40 : decode cX7_liveOf 40 = .ok (.invokevirtual 139, 3) := by decide +kernel
theorem dX7_liveOf_43 : decode cX7_liveOf 43 = .ok (.aload_n 0, 1) := by decide +kernel
theorem dX7_liveOf_44 : decode cX7_liveOf 44 = .ok (.iload_n 1, 1) := by decide +kernel
theorem dX7_liveOf_45 : decode cX7_liveOf 45 = .ok (.invokevirtual 192, 3) := by decide +kernel
theorem dX7_liveOf_48 : decode cX7_liveOf 48 = .ok (.istore 5, 2) := by decide +kernel
theorem dX7_liveOf_50 : decode cX7_liveOf 50 = .ok (.goto (-20), 3) := by decide +kernel
theorem dX7_liveOf_53 : decode cX7_liveOf 53 = .ok (.aload_n 0, 1) := by decide +kernel
theorem dX7_liveOf_54 : decode cX7_liveOf 54 = .ok (.invokevirtual 142, 3) := by decide +kernel
theorem dX7_liveOf_57 : decode cX7_liveOf 57 = .ok (.istore 4, 2) := by decide +kernel
theorem dX7_liveOf_59 : decode cX7_liveOf 59 = .ok (.goto (-49), 3) := by decide +kernel
theorem dX7_liveOf_62 : decode cX7_liveOf 62 = .ok (.iload_n 3, 1) := by decide +kernel
theorem dX7_liveOf_63 : decode cX7_liveOf 63 = .ok (.ireturn, 1) := by decide +kernel
set_option maxRecDepth 20000 in
theorem ggX7_isRule_X7_in : GoodIn wsX7_isRule wsX7_in := goodIn_r _ [5] (by decide +kernel) (by decide +kernel)
set_option maxRecDepth 20000 in
theorem gX7_isRule_X7_in : GoodIn wsX7_isRule (va_wsS RX7 68 yX7_in wsX7_in) := goodIn_app (goodIn_of _ (by decide +kernel)) ggX7_isRule_X7_in
theorem dX7_isRule_0 : decode cX7_isRule 0 = .ok (.iload_n 0, 1) := by decide +kernel
theorem dX7_isRule_1 : decode cX7_isRule 1 = .ok (.i2l, 1) := by decide +kernel
theorem dX7_isRule_2 : decode cX7_isRule 2 = .ok (.lconst 0, 1) := by decide +kernel
theorem dX7_isRule_3 : decode cX7_isRule 3 = .ok (.ldc2_w 195, 3) := by decide +kernel
theorem dX7_isRule_6 : decode cX7_isRule 6 = .ok (.invokestatic 68, 3) := by decide +kernel
theorem dX7_isRule_9 : decode cX7_isRule 9 = .ok (.ireturn, 1) := by decide +kernel
set_option maxRecDepth 20000 in
theorem ggX7_live_X7_isRule : GoodIn wsX7_live wsX7_isRule := goodIn_r _ [6, 1, 7, 8, 5, 9] (by decide +kernel) (by decide +kernel)
set_option maxRecDepth 20000 in
theorem gX7_live_X7_isRule : GoodIn wsX7_live (va_wsS RX7 197 yX7_isRule wsX7_isRule) := goodIn_app (goodIn_of _ (by decide +kernel)) ggX7_live_X7_isRule
set_option maxRecDepth 20000 in
theorem ggX7_live_X7_isFire : GoodIn wsX7_live wsX7_isFire := goodIn_r _ [13, 14, 15, 16, 5, 17, 18, 7, 8, 9, 70, 71, 72, 73, 74, 75, 76, 77, 78, 79, 80, 81, 82, 83, 84, 85, 86, 87, 88, 89, 90, 91, 92, 93, 94, 95, 96, 97, 98, 99, 100, 101, 102, 103] (by decide +kernel) (by decide +kernel)
set_option maxRecDepth 20000 in
theorem gX7_live_X7_isFire : GoodIn wsX7_live (wsV RX7 146 RX7 yX7_isFire wsX7_isFire) := goodIn_app (goodIn_of _ (by decide +kernel)) ggX7_live_X7_isFire
set_option maxRecDepth 20000 in
theorem ggX7_live_X7_in : GoodIn wsX7_live wsX7_in := goodIn_r _ [9] (by decide +kernel) (by decide +kernel)
set_option maxRecDepth 20000 in
theorem gX7_live_X7_in : GoodIn wsX7_live (va_wsS RX7 68 yX7_in wsX7_in) := goodIn_app (goodIn_of _ (by decide +kernel)) ggX7_live_X7_in
set_option maxRecDepth 20000 in
theorem ggX7_live_X7_liveOf : GoodIn wsX7_live wsX7_liveOf := goodIn_r _ [22, 23, 24, 25, 5, 26, 27, 2, 28, 29, 30, 31, 32, 33, 34, 35, 36, 37, 38, 39, 18, 40, 41, 42, 43, 44, 45, 46, 47, 48, 49, 50, 51, 52, 53, 54, 55, 56, 57, 58, 59, 60, 61, 70, 71, 72, 73, 74, 75, 76, 77, 78, 79, 80, 81, 82, 83, 84, 85, 86, 87, 88, 89, 90, 91, 92, 93, 94, 95, 96, 97, 98, 99, 100, 101, 102, 103] (by decide +kernel) (by decide +kernel)
set_option maxRecDepth 20000 in
theorem gX7_live_X7_liveOf : GoodIn wsX7_live (wsV RX7 200 RX7 yX7_liveOf wsX7_liveOf) := goodIn_app (goodIn_of _ (by decide +kernel)) ggX7_live_X7_liveOf
set_option maxRecDepth 20000 in
theorem ggX7_live_X7_saved : GoodIn wsX7_live wsX7_saved := goodIn_r _ [65, 27, 14, 15, 16, 5, 17, 18, 66, 67, 68, 69, 41, 70, 71, 72, 73, 74, 75, 76, 77, 78, 79, 80, 81, 82, 83, 84, 85, 86, 87, 88, 89, 90, 91, 92, 93, 94, 95, 96, 97, 98, 99, 100, 101, 102, 103] (by decide +kernel) (by decide +kernel)
set_option maxRecDepth 20000 in
theorem gX7_live_X7_saved : GoodIn wsX7_live (wsV RX7 155 RX7 yX7_saved wsX7_saved) := goodIn_app (goodIn_of _ (by decide +kernel)) ggX7_live_X7_saved
theorem dX7_live_0 : decode cX7_live 0 = .ok (.iload_n 1, 1) := by decide +kernel
theorem dX7_live_1 : decode cX7_live 1 = .ok (.invokestatic 197, 3) := by decide +kernel
theorem dX7_live_4 : decode cX7_live 4 = .ok (.ifCond .eq 23, 3) := by decide +kernel
theorem dX7_live_7 : decode cX7_live 7 = .ok (.aload_n 0, 1) := by decide +kernel
theorem dX7_live_8 : decode cX7_live 8 = .ok (.iload_n 2, 1) := by decide +kernel
theorem dX7_live_9 : decode cX7_live 9 = .ok (.invokevirtual 146, 3) := by decide +kernel
theorem dX7_live_12 : decode cX7_live 12 = .ok (.ifCond .eq 15, 3) := by decide +kernel
theorem dX7_live_15 : decode cX7_live 15 = .ok (.iload_n 3, 1) := by decide +kernel
theorem dX7_live_16 : decode cX7_live 16 = .ok (.i2l, 1) := by decide +kernel
theorem dX7_live_17 : decode cX7_live 17 = .ok (.lconst 0, 1) := by decide +kernel
theorem dX7_live_18 : decode cX7_live 18 = .ok (.ldc2_w 195, 3) := by decide +kernel
theorem dX7_live_21 : decode cX7_live 21 = .ok (.invokestatic 68, 3) := by decide +kernel
theorem dX7_live_24 : decode cX7_live 24 = .ok (.ifCond .ne 7, 3) := by decide +kernel
theorem dX7_live_27 : decode cX7_live 27 = .ok (.sipush (-1002), 3) := by decide +kernel
theorem dX7_live_30 : decode cX7_live 30 = .ok (.ireturn, 1) := by decide +kernel
theorem dX7_live_31 : decode cX7_live 31 = .ok (.aload_n 0, 1) := by decide +kernel
theorem dX7_live_32 : decode cX7_live 32 = .ok (.iload_n 1, 1) := by decide +kernel
theorem dX7_live_33 : decode cX7_live 33 = .ok (.iload_n 2, 1) := by decide +kernel
theorem dX7_live_34 : decode cX7_live 34 = .ok (.invokevirtual 200, 3) := by decide +kernel
theorem dX7_live_37 : decode cX7_live 37 = .ok (.istore 4, 2) := by decide +kernel
theorem dX7_live_39 : decode cX7_live 39 = .ok (.iload_n 3, 1) := by decide +kernel
theorem dX7_live_40 : decode cX7_live 40 = .ok (.ifCond .ne 10, 3) := by decide +kernel
theorem dX7_live_43 : decode cX7_live 43 = .ok (.aload_n 0, 1) := by decide +kernel
theorem dX7_live_44 : decode cX7_live 44 = .ok (.invokevirtual 155, 3) := by decide +kernel
theorem dX7_live_47 : decode cX7_live 47 = .ok (.goto 17, 3) := by decide +kernel
theorem dX7_live_50 : decode cX7_live 50 = .ok (.iload_n 3, 1) := by decide +kernel
theorem dX7_live_51 : decode cX7_live 51 = .ok (.iconst 1, 1) := by decide +kernel
theorem dX7_live_52 : decode cX7_live 52 = .ok (.if_icmp .ne 10, 3) := by decide +kernel
theorem dX7_live_55 : decode cX7_live 55 = .ok (.aload_n 0, 1) := by decide +kernel
theorem dX7_live_56 : decode cX7_live 56 = .ok (.getfield 106, 3) := by decide +kernel
theorem dX7_live_59 : decode cX7_live 59 = .ok (.goto 5, 3) := by decide +kernel
theorem dX7_live_62 : decode cX7_live 62 = .ok (.iload 4, 2) := by decide +kernel
theorem dX7_live_64 : decode cX7_live 64 = .ok (.ireturn, 1) := by decide +kernel
theorem dX7_part_0 : decode cX7_part 0 = .ok (.iload_n 0, 1) := by decide +kernel
theorem dX7_part_1 : decode cX7_part 1 = .ok (.istore_n 3, 1) := by decide +kernel
theorem dX7_part_2 : decode cX7_part 2 = .ok (.iload_n 1, 1) := by decide +kernel
theorem dX7_part_3 : decode cX7_part 3 = .ok (.istore 4, 2) := by decide +kernel
theorem dX7_part_5 : decode cX7_part 5 = .ok (.iload 4, 2) := by decide +kernel
theorem dX7_part_7 : decode cX7_part 7 = .ok (.ifCond .eq 19, 3) := by decide +kernel
theorem dX7_part_10 : decode cX7_part 10 = .ok (.iload_n 3, 1) := by decide +kernel
theorem dX7_part_11 : decode cX7_part 11 = .ok (.iload 4, 2) := by decide +kernel
theorem dX7_part_13 : decode cX7_part 13 = .ok (.irem, 1) := by decide +kernel
theorem dX7_part_14 : decode cX7_part 14 = .ok (.istore 5, 2) := by decide +kernel
theorem dX7_part_16 : decode cX7_part 16 = .ok (.iload 4, 2) := by decide +kernel
theorem dX7_part_18 : decode cX7_part 18 = .ok (.istore_n 3, 1) := by decide +kernel
theorem dX7_part_19 : decode cX7_part 19 = .ok (.iload 5, 2) := by decide +kernel
theorem dX7_part_21 : decode cX7_part 21 = .ok (.istore 4, 2) := by decide +kernel
theorem dX7_part_23 : decode cX7_part 23 = .ok (.goto (-18), 3) := by decide +kernel
theorem dX7_part_26 : decode cX7_part 26 = .ok (.iload_n 2, 1) := by decide +kernel
theorem dX7_part_27 : decode cX7_part 27 = .ok (.ifCond .ne 9, 3) := by decide +kernel
theorem dX7_part_30 : decode cX7_part 30 = .ok (.iload_n 0, 1) := by decide +kernel
theorem dX7_part_31 : decode cX7_part 31 = .ok (.iload_n 3, 1) := by decide +kernel
theorem dX7_part_32 : decode cX7_part 32 = .ok (.idiv, 1) := by decide +kernel
theorem dX7_part_33 : decode cX7_part 33 = .ok (.goto 6, 3) := by decide +kernel
theorem dX7_part_36 : decode cX7_part 36 = .ok (.iload_n 1, 1) := by decide +kernel
theorem dX7_part_37 : decode cX7_part 37 = .ok (.iload_n 3, 1) := by decide +kernel
theorem dX7_part_38 : decode cX7_part 38 = .ok (.idiv, 1) := by decide +kernel
theorem dX7_part_39 : decode cX7_part 39 = .ok (.ireturn, 1) := by decide +kernel
set_option maxRecDepth 20000 in
theorem ggX7_findShare_X7_liveOf : GoodIn wsX7_findShare wsX7_liveOf := goodIn_r _ [8, 9, 10, 11, 7, 12, 13, 14, 15, 16, 17, 18, 19, 20, 21, 22, 23, 24, 25, 26, 27, 28, 29, 30, 31, 32, 33, 34, 35, 36, 37, 38, 39, 40, 41, 42, 43, 44, 45, 46, 47, 48, 49, 92, 93, 94, 95, 96, 97, 98, 99, 100, 101, 102, 103, 104, 105, 106, 107, 108, 109, 110, 111, 112, 113, 114, 115, 116, 117, 118, 119, 120, 121, 122, 123, 124, 125] (by decide +kernel) (by decide +kernel)
set_option maxRecDepth 20000 in
theorem gX7_findShare_X7_liveOf : GoodIn wsX7_findShare (wsV RX7 200 RX7 yX7_liveOf wsX7_liveOf) := goodIn_app (goodIn_of _ (by decide +kernel)) ggX7_findShare_X7_liveOf
set_option maxRecDepth 20000 in
theorem ggX7_findShare_X7_saved : GoodIn wsX7_findShare wsX7_saved := goodIn_r _ [53, 13, 54, 55, 56, 7, 57, 27, 58, 59, 60, 61, 29, 92, 93, 94, 95, 96, 97, 98, 99, 100, 101, 102, 103, 104, 105, 106, 107, 108, 109, 110, 111, 112, 113, 114, 115, 116, 117, 118, 119, 120, 121, 122, 123, 124, 125] (by decide +kernel) (by decide +kernel)
set_option maxRecDepth 20000 in
theorem gX7_findShare_X7_saved : GoodIn wsX7_findShare (wsV RX7 155 RX7 yX7_saved wsX7_saved) := goodIn_app (goodIn_of _ (by decide +kernel)) ggX7_findShare_X7_saved
set_option maxRecDepth 20000 in
theorem ggX7_findShare_X7_seek : GoodIn wsX7_findShare wsX7_seek := goodIn_r _ [65, 66, 67, 68, 2, 69, 70, 15, 71, 54, 55, 56, 7, 57, 27, 42, 43, 44, 45, 28, 9, 10, 11, 12, 13, 14, 16, 17, 18, 19, 20, 21, 22, 72, 73, 74, 75, 76, 77, 78, 79, 80, 81, 82, 83, 84, 85, 86, 38, 39, 40, 41, 46, 47, 48, 49, 31, 32, 33, 34, 30, 87, 88, 89, 90, 91, 50, 51, 52, 53, 58, 59, 60, 61, 29, 92, 93, 94, 95, 96, 97, 98, 99, 100, 101, 102, 103, 104, 105, 106, 107, 108, 109, 110, 111, 112, 113, 114, 115, 116, 117, 118, 119, 120, 121, 122, 123, 124, 125] (by decide +kernel) (by decide +kernel)
set_option maxRecDepth 20000 in
theorem gX7_findShare_X7_seek : GoodIn wsX7_findShare (wsV RX7 184 RX7 yX7_seek wsX7_seek) := goodIn_app (goodIn_of _ (by decide +kernel)) ggX7_findShare_X7_seek
theorem dX7_findShare_0 : decode cX7_findShare 0 = .ok (.aload_n 0, 1) := by decide +kernel
theorem dX7_findShare_1 : decode cX7_findShare 1 = .ok (.iload_n 1, 1) := by decide +kernel
theorem dX7_findShare_2 : decode cX7_findShare 2 = .ok (.iload_n 2, 1) := by decide +kernel
theorem dX7_findShare_3 : decode cX7_findShare 3 = .ok (.invokevirtual 200, 3) := by decide +kernel
theorem dX7_findShare_6 : decode cX7_findShare 6 = .ok (.istore_n 3, 1) := by decide +kernel
theorem dX7_findShare_7 : decode cX7_findShare 7 = .ok (.aload_n 0, 1) := by decide +kernel
theorem dX7_findShare_8 : decode cX7_findShare 8 = .ok (.aload_n 0, 1) := by decide +kernel
theorem dX7_findShare_9 : decode cX7_findShare 9 = .ok (.invokevirtual 155, 3) := by decide +kernel
theorem dX7_findShare_12 : decode cX7_findShare 12 = .ok (.putfield 204, 3) := by decide +kernel
theorem dX7_findShare_15 : decode cX7_findShare 15 = .ok (.aload_n 0, 1) := by decide +kernel
theorem dX7_findShare_16 : decode cX7_findShare 16 = .ok (.iload_n 2, 1) := by decide +kernel
theorem dX7_findShare_17 : decode cX7_findShare 17 = .ok (.invokevirtual 184, 3) := by decide +kernel
theorem dX7_findShare_20 : decode cX7_findShare 20 = .ok (.aload_n 0, 1) := by decide +kernel
theorem dX7_findShare_21 : decode cX7_findShare 21 = .ok (.aload_n 0, 1) := by decide +kernel
theorem dX7_findShare_22 : decode cX7_findShare 22 = .ok (.getfield 158, 3) := by decide +kernel
theorem dX7_findShare_25 : decode cX7_findShare 25 = .ok (.putfield 207, 3) := by decide +kernel
theorem dX7_findShare_28 : decode cX7_findShare 28 = .ok (.aload_n 0, 1) := by decide +kernel
theorem dX7_findShare_29 : decode cX7_findShare 29 = .ok (.getfield 207, 3) := by decide +kernel
theorem dX7_findShare_32 : decode cX7_findShare 32 = .ok (.ifCond .ne 13, 3) := by decide +kernel
theorem dX7_findShare_35 : decode cX7_findShare 35 = .ok (.aload_n 0, 1) := by decide +kernel
theorem dX7_findShare_36 : decode cX7_findShare 36 = .ok (.iconst 1, 1) := by decide +kernel
theorem dX7_findShare_37 : decode cX7_findShare 37 = .ok (.putfield 204, 3) := by decide +kernel
theorem dX7_findShare_40 : decode cX7_findShare 40 = .ok (.aload_n 0, 1) := by decide +kernel
theorem dX7_findShare_41 : decode cX7_findShare 41 = .ok (.iconst 1, 1) := by decide +kernel
theorem dX7_findShare_42 : decode cX7_findShare 42 = .ok (.putfield 207, 3) := by decide +kernel
theorem dX7_findShare_45 : decode cX7_findShare 45 = .ok (.return_, 1) := by decide +kernel
set_option maxRecDepth 20000 in
theorem ggX7_share_X7_isRule : GoodIn wsX7_share wsX7_isRule := goodIn_r _ [6, 7, 8, 9, 5, 10] (by decide +kernel) (by decide +kernel)
set_option maxRecDepth 20000 in
theorem gX7_share_X7_isRule : GoodIn wsX7_share (va_wsS RX7 197 yX7_isRule wsX7_isRule) := goodIn_app (goodIn_of _ (by decide +kernel)) ggX7_share_X7_isRule
set_option maxRecDepth 20000 in
theorem ggX7_share_X7_isFire : GoodIn wsX7_share wsX7_isFire := goodIn_r _ [14, 15, 16, 17, 5, 18, 19, 8, 9, 10, 110, 111, 112, 113, 114, 115, 116, 117, 118, 119, 120, 121, 122, 123, 124, 125, 126, 127, 128, 129, 130, 131, 132, 133, 134, 135, 136, 137, 138, 139, 140, 141, 142, 143] (by decide +kernel) (by decide +kernel)
set_option maxRecDepth 20000 in
theorem gX7_share_X7_isFire : GoodIn wsX7_share (wsV RX7 146 RX7 yX7_isFire wsX7_isFire) := goodIn_app (goodIn_of _ (by decide +kernel)) ggX7_share_X7_isFire
set_option maxRecDepth 20000 in
theorem ggX7_share_X7_in : GoodIn wsX7_share wsX7_in := goodIn_r _ [10] (by decide +kernel) (by decide +kernel)
set_option maxRecDepth 20000 in
theorem gX7_share_X7_in : GoodIn wsX7_share (va_wsS RX7 68 yX7_in wsX7_in) := goodIn_app (goodIn_of _ (by decide +kernel)) ggX7_share_X7_in
set_option maxRecDepth 20000 in
theorem ggX7_share_X7_findShare : GoodIn wsX7_share wsX7_findShare := goodIn_r _ [23, 1, 24, 2, 25, 26, 27, 5, 28, 29, 30, 31, 32, 33, 34, 35, 36, 37, 38, 39, 40, 41, 42, 43, 44, 45, 46, 19, 47, 48, 49, 50, 51, 52, 53, 54, 55, 56, 57, 58, 59, 60, 61, 62, 63, 64, 65, 66, 67, 68, 69, 70, 71, 72, 15, 16, 17, 18, 73, 74, 75, 76, 77, 78, 79, 80, 81, 82, 83, 84, 85, 86, 87, 88, 89, 90, 91, 92, 93, 94, 95, 96, 97, 98, 99, 100, 101, 102, 103, 104, 105, 106, 110, 111, 112, 113, 114, 115, 116, 117, 118, 119, 120, 121, 122, 123, 124, 125, 126, 127, 128, 129, 130, 131, 132, 133, 134, 135, 136, 137, 138, 139, 140, 141, 142, 143] (by decide +kernel) (by decide +kernel)
set_option maxRecDepth 20000 in
theorem gX7_share_X7_findShare : GoodIn wsX7_share (wsV RX7 210 RX7 yX7_findShare wsX7_findShare) := goodIn_app (goodIn_of _ (by decide +kernel)) ggX7_share_X7_findShare
set_option maxRecDepth 20000 in
theorem ggX7_share_X7_part : GoodIn wsX7_share wsX7_part := goodIn_r _ [109] (by decide +kernel) (by decide +kernel)
set_option maxRecDepth 20000 in
theorem gX7_share_X7_part : GoodIn wsX7_share (va_wsS RX7 213 yX7_part wsX7_part) := goodIn_app (goodIn_of _ (by decide +kernel)) ggX7_share_X7_part
theorem dX7_share_0 : decode cX7_share 0 = .ok (.iload_n 1, 1) := by decide +kernel
theorem dX7_share_1 : decode cX7_share 1 = .ok (.invokestatic 197, 3) := by decide +kernel
theorem dX7_share_4 : decode cX7_share 4 = .ok (.ifCond .eq 21, 3) := by decide +kernel
theorem dX7_share_7 : decode cX7_share 7 = .ok (.aload_n 0, 1) := by decide +kernel
theorem dX7_share_8 : decode cX7_share 8 = .ok (.iload_n 2, 1) := by decide +kernel
theorem dX7_share_9 : decode cX7_share 9 = .ok (.invokevirtual 146, 3) := by decide +kernel
theorem dX7_share_12 : decode cX7_share 12 = .ok (.ifCond .eq 13, 3) := by decide +kernel
theorem dX7_share_15 : decode cX7_share 15 = .ok (.iload_n 3, 1) := by decide +kernel
theorem dX7_share_16 : decode cX7_share 16 = .ok (.i2l, 1) := by decide +kernel
theorem dX7_share_17 : decode cX7_share 17 = .ok (.lconst 0, 1) := by decide +kernel
theorem dX7_share_18 : decode cX7_share 18 = .ok (.lconst 1, 1) := by decide +kernel
theorem dX7_share_19 : decode cX7_share 19 = .ok (.invokestatic 68, 3) := by decide +kernel
theorem dX7_share_22 : decode cX7_share 22 = .ok (.ifCond .ne 7, 3) := by decide +kernel
theorem dX7_share_25 : decode cX7_share 25 = .ok (.sipush (-1002), 3) := by decide +kernel
theorem dX7_share_28 : decode cX7_share 28 = .ok (.ireturn, 1) := by decide +kernel
theorem dX7_share_29 : decode cX7_share 29 = .ok (.aload_n 0, 1) := by decide +kernel
theorem dX7_share_30 : decode cX7_share 30 = .ok (.iload_n 1, 1) := by decide +kernel
theorem dX7_share_31 : decode cX7_share 31 = .ok (.iload_n 2, 1) := by decide +kernel
theorem dX7_share_32 : decode cX7_share 32 = .ok (.invokevirtual 210, 3) := by decide +kernel
theorem dX7_share_35 : decode cX7_share 35 = .ok (.aload_n 0, 1) := by decide +kernel
theorem dX7_share_36 : decode cX7_share 36 = .ok (.getfield 204, 3) := by decide +kernel
theorem dX7_share_39 : decode cX7_share 39 = .ok (.aload_n 0, 1) := by decide +kernel
theorem dX7_share_40 : decode cX7_share 40 = .ok (.getfield 207, 3) := by decide +kernel
theorem dX7_share_43 : decode cX7_share 43 = .ok (.iload_n 3, 1) := by decide +kernel
theorem dX7_share_44 : decode cX7_share 44 = .ok (.invokestatic 213, 3) := by decide +kernel
theorem dX7_share_47 : decode cX7_share 47 = .ok (.ireturn, 1) := by decide +kernel
set_option maxRecDepth 20000 in
theorem ggX7_worst_X7_isRule : GoodIn wsX7_worst wsX7_isRule := goodIn_r _ [7, 8, 9, 10, 6, 11] (by decide +kernel) (by decide +kernel)
set_option maxRecDepth 20000 in
theorem gX7_worst_X7_isRule : GoodIn wsX7_worst (va_wsS RX7 197 yX7_isRule wsX7_isRule) := goodIn_app (goodIn_of _ (by decide +kernel)) ggX7_worst_X7_isRule
set_option maxRecDepth 20000 in
theorem ggX7_worst_X7_findShare : GoodIn wsX7_worst wsX7_findShare := goodIn_r _ [15, 2, 16, 3, 17, 18, 19, 6, 20, 21, 22, 23, 24, 25, 26, 27, 28, 29, 30, 31, 32, 33, 34, 35, 36, 37, 38, 1, 39, 40, 41, 42, 43, 44, 45, 46, 47, 48, 49, 50, 51, 52, 53, 54, 55, 56, 57, 58, 59, 60, 61, 62, 63, 64, 65, 66, 67, 68, 69, 70, 71, 72, 73, 74, 75, 76, 77, 78, 79, 80, 81, 82, 83, 84, 85, 86, 87, 88, 89, 90, 91, 92, 93, 94, 95, 96, 97, 98, 99, 100, 101, 102, 103, 104, 105, 106, 107, 108, 109, 110, 111, 112, 113, 114, 115, 116, 117, 118, 119, 120, 121, 122, 123, 124, 125, 126, 127, 128, 129, 130, 131, 132, 133, 134, 135, 136] (by decide +kernel) (by decide +kernel)
set_option maxRecDepth 20000 in
theorem gX7_worst_X7_findShare : GoodIn wsX7_worst (wsV RX7 210 RX7 yX7_findShare wsX7_findShare) := goodIn_app (goodIn_of _ (by decide +kernel)) ggX7_worst_X7_findShare
theorem dX7_worst_0 : decode cX7_worst 0 = .ok (.iload_n 1, 1) := by decide +kernel
theorem dX7_worst_1 : decode cX7_worst 1 = .ok (.invokestatic 197, 3) := by decide +kernel
theorem dX7_worst_4 : decode cX7_worst 4 = .ok (.ifCond .ne 7, 3) := by decide +kernel
theorem dX7_worst_7 : decode cX7_worst 7 = .ok (.sipush (-1002), 3) := by decide +kernel
theorem dX7_worst_10 : decode cX7_worst 10 = .ok (.ireturn, 1) := by decide +kernel
theorem dX7_worst_11 : decode cX7_worst 11 = .ok (.iconst (-1), 1) := by decide +kernel
theorem dX7_worst_12 : decode cX7_worst 12 = .ok (.istore_n 2, 1) := by decide +kernel
theorem dX7_worst_13 : decode cX7_worst 13 = .ok (.iconst 0, 1) := by decide +kernel
theorem dX7_worst_14 : decode cX7_worst 14 = .ok (.istore_n 3, 1) := by decide +kernel
theorem dX7_worst_15 : decode cX7_worst 15 = .ok (.iconst 1, 1) := by decide +kernel
theorem dX7_worst_16 : decode cX7_worst 16 = .ok (.istore 4, 2) := by decide +kernel
theorem dX7_worst_18 : decode cX7_worst 18 = .ok (.iconst 0, 1) := by decide +kernel
theorem dX7_worst_19 : decode cX7_worst 19 = .ok (.istore 5, 2) := by decide +kernel
theorem dX7_worst_21 : decode cX7_worst 21 = .ok (.iload 5, 2) := by decide +kernel
theorem dX7_worst_23 : decode cX7_worst 23 = .ok (.aload_n 0, 1) := by decide +kernel
theorem dX7_worst_24 : decode cX7_worst 24 = .ok (.getfield 7, 3) := by decide +kernel
theorem dX7_worst_27 : decode cX7_worst 27 = .ok (.if_icmp .ge 52, 3) := by decide +kernel
theorem dX7_worst_30 : decode cX7_worst 30 = .ok (.aload_n 0, 1) := by decide +kernel
theorem dX7_worst_31 : decode cX7_worst 31 = .ok (.iload_n 1, 1) := by decide +kernel
theorem dX7_worst_32 : decode cX7_worst 32 = .ok (.iconst 1, 1) := by decide +kernel
theorem dX7_worst_33 : decode cX7_worst 33 = .ok (.iload 5, 2) := by decide +kernel
theorem dX7_worst_35 : decode cX7_worst 35 = .ok (.ishl, 1) := by decide +kernel
theorem dX7_worst_36 : decode cX7_worst 36 = .ok (.invokevirtual 210, 3) := by decide +kernel
theorem dX7_worst_39 : decode cX7_worst 39 = .ok (.iload_n 2, 1) := by decide +kernel
theorem dX7_worst_40 : decode cX7_worst 40 = .ok (.ifCond .lt 19, 3) := by decide +kernel
theorem dX7_worst_43 : decode cX7_worst 43 = .ok (.aload_n 0, 1) := by decide +kernel
theorem dX7_worst_44 : decode cX7_worst 44 = .ok (.getfield 204, 3) := by decide +kernel
theorem dX7_worst_47 : decode cX7_worst 47 = .ok (.iload 4, 2) := by decide +kernel
theorem dX7_worst_49 : decode cX7_worst 49 = .ok (.imul, 1) := by decide +kernel
theorem dX7_worst_50 : decode cX7_worst 50 = .ok (.iload_n 3, 1) := by decide +kernel
theorem dX7_worst_51 : decode cX7_worst 51 = .ok (.aload_n 0, 1) := by decide +kernel
theorem dX7_worst_52 : decode cX7_worst 52 = .ok (.getfield 207, 3) := by decide +kernel
theorem dX7_worst_55 : decode cX7_worst 55 = .ok (.imul, 1) := by decide +kernel
theorem dX7_worst_56 : decode cX7_worst 56 = .ok (.if_icmp .ge 17, 3) := by decide +kernel
theorem dX7_worst_59 : decode cX7_worst 59 = .ok (.iload 5, 2) := by decide +kernel
theorem dX7_worst_61 : decode cX7_worst 61 = .ok (.istore_n 2, 1) := by decide +kernel
theorem dX7_worst_62 : decode cX7_worst 62 = .ok (.aload_n 0, 1) := by decide +kernel
theorem dX7_worst_63 : decode cX7_worst 63 = .ok (.getfield 204, 3) := by decide +kernel
theorem dX7_worst_66 : decode cX7_worst 66 = .ok (.istore_n 3, 1) := by decide +kernel
theorem dX7_worst_67 : decode cX7_worst 67 = .ok (.aload_n 0, 1) := by decide +kernel
theorem dX7_worst_68 : decode cX7_worst 68 = .ok (.getfield 207, 3) := by decide +kernel
theorem dX7_worst_71 : decode cX7_worst 71 = .ok (.istore 4, 2) := by decide +kernel
theorem dX7_worst_73 : decode cX7_worst 73 = .ok (.iinc 5 1, 3) := by decide +kernel
theorem dX7_worst_76 : decode cX7_worst 76 = .ok (.goto (-55), 3) := by decide +kernel
theorem dX7_worst_79 : decode cX7_worst 79 = .ok (.iload_n 2, 1) := by decide +kernel
theorem dX7_worst_80 : decode cX7_worst 80 = .ok (.ireturn, 1) := by decide +kernel
set_option maxRecDepth 20000 in
theorem ggX7_mean_X7_isRule : GoodIn wsX7_mean wsX7_isRule := goodIn_r _ [5, 6, 7, 8, 4, 9] (by decide +kernel) (by decide +kernel)
set_option maxRecDepth 20000 in
theorem gX7_mean_X7_isRule : GoodIn wsX7_mean (va_wsS RX7 197 yX7_isRule wsX7_isRule) := goodIn_app (goodIn_of _ (by decide +kernel)) ggX7_mean_X7_isRule
set_option maxRecDepth 20000 in
theorem ggX7_mean_X7_isFire : GoodIn wsX7_mean wsX7_isFire := goodIn_r _ [13, 14, 15, 16, 4, 17, 1, 7, 8, 9, 73, 74, 75, 76, 77, 78, 79, 80, 81, 82, 83, 84, 85, 86, 87, 88, 89, 90, 91, 92, 93, 94, 95, 96, 97, 98, 99, 100, 101, 102, 103, 104, 105, 106] (by decide +kernel) (by decide +kernel)
set_option maxRecDepth 20000 in
theorem gX7_mean_X7_isFire : GoodIn wsX7_mean (wsV RX7 146 RX7 yX7_isFire wsX7_isFire) := goodIn_app (goodIn_of _ (by decide +kernel)) ggX7_mean_X7_isFire
set_option maxRecDepth 20000 in
theorem ggX7_mean_X7_in : GoodIn wsX7_mean wsX7_in := goodIn_r _ [9] (by decide +kernel) (by decide +kernel)
set_option maxRecDepth 20000 in
theorem gX7_mean_X7_in : GoodIn wsX7_mean (va_wsS RX7 68 yX7_in wsX7_in) := goodIn_app (goodIn_of _ (by decide +kernel)) ggX7_mean_X7_in
set_option maxRecDepth 20000 in
theorem ggX7_mean_X7_liveOf : GoodIn wsX7_mean wsX7_liveOf := goodIn_r _ [21, 22, 23, 24, 4, 25, 26, 27, 28, 29, 30, 31, 32, 33, 34, 35, 36, 37, 38, 39, 1, 40, 41, 42, 43, 44, 45, 46, 47, 48, 49, 50, 51, 52, 53, 54, 55, 56, 57, 58, 59, 60, 61, 73, 74, 75, 76, 77, 78, 79, 80, 81, 82, 83, 84, 85, 86, 87, 88, 89, 90, 91, 92, 93, 94, 95, 96, 97, 98, 99, 100, 101, 102, 103, 104, 105, 106] (by decide +kernel) (by decide +kernel)
set_option maxRecDepth 20000 in
theorem gX7_mean_X7_liveOf : GoodIn wsX7_mean (wsV RX7 200 RX7 yX7_liveOf wsX7_liveOf) := goodIn_app (goodIn_of _ (by decide +kernel)) ggX7_mean_X7_liveOf
set_option maxRecDepth 20000 in
theorem ggX7_mean_X7_saved : GoodIn wsX7_mean wsX7_saved := goodIn_r _ [65, 26, 14, 15, 16, 4, 17, 1, 66, 67, 68, 69, 41, 73, 74, 75, 76, 77, 78, 79, 80, 81, 82, 83, 84, 85, 86, 87, 88, 89, 90, 91, 92, 93, 94, 95, 96, 97, 98, 99, 100, 101, 102, 103, 104, 105, 106] (by decide +kernel) (by decide +kernel)
set_option maxRecDepth 20000 in
theorem gX7_mean_X7_saved : GoodIn wsX7_mean (wsV RX7 155 RX7 yX7_saved wsX7_saved) := goodIn_app (goodIn_of _ (by decide +kernel)) ggX7_mean_X7_saved
set_option maxRecDepth 20000 in
theorem ggX7_mean_X7_bits : GoodIn wsX7_mean wsX7_bits := goodIn_r _ [49] (by decide +kernel) (by decide +kernel)
set_option maxRecDepth 20000 in
theorem gX7_mean_X7_bits : GoodIn wsX7_mean (va_wsS RX7 189 yX7_bits wsX7_bits) := goodIn_app (goodIn_of _ (by decide +kernel)) ggX7_mean_X7_bits
set_option maxRecDepth 20000 in
theorem ggX7_mean_X7_part : GoodIn wsX7_mean wsX7_part := goodIn_r _ [72] (by decide +kernel) (by decide +kernel)
set_option maxRecDepth 20000 in
theorem gX7_mean_X7_part : GoodIn wsX7_mean (va_wsS RX7 213 yX7_part wsX7_part) := goodIn_app (goodIn_of _ (by decide +kernel)) ggX7_mean_X7_part
theorem dX7_mean_0 : decode cX7_mean 0 = .ok (.iload_n 1, 1) := by decide +kernel
theorem dX7_mean_1 : decode cX7_mean 1 = .ok (.invokestatic 197, 3) := by decide +kernel
theorem dX7_mean_4 : decode cX7_mean 4 = .ok (.ifCond .eq 21, 3) := by decide +kernel
theorem dX7_mean_7 : decode cX7_mean 7 = .ok (.aload_n 0, 1) := by decide +kernel
theorem dX7_mean_8 : decode cX7_mean 8 = .ok (.iload_n 2, 1) := by decide +kernel
theorem dX7_mean_9 : decode cX7_mean 9 = .ok (.invokevirtual 146, 3) := by decide +kernel
theorem dX7_mean_12 : decode cX7_mean 12 = .ok (.ifCond .eq 13, 3) := by decide +kernel
theorem dX7_mean_15 : decode cX7_mean 15 = .ok (.iload_n 3, 1) := by decide +kernel
theorem dX7_mean_16 : decode cX7_mean 16 = .ok (.i2l, 1) := by decide +kernel
theorem dX7_mean_17 : decode cX7_mean 17 = .ok (.lconst 0, 1) := by decide +kernel
theorem dX7_mean_18 : decode cX7_mean 18 = .ok (.lconst 1, 1) := by decide +kernel
theorem dX7_mean_19 : decode cX7_mean 19 = .ok (.invokestatic 68, 3) := by decide +kernel
theorem dX7_mean_22 : decode cX7_mean 22 = .ok (.ifCond .ne 7, 3) := by decide +kernel
theorem dX7_mean_25 : decode cX7_mean 25 = .ok (.sipush (-1002), 3) := by decide +kernel
theorem dX7_mean_28 : decode cX7_mean 28 = .ok (.ireturn, 1) := by decide +kernel
theorem dX7_mean_29 : decode cX7_mean 29 = .ok (.iconst 0, 1) := by decide +kernel
theorem dX7_mean_30 : decode cX7_mean 30 = .ok (.istore 4, 2) := by decide +kernel
theorem dX7_mean_32 : decode cX7_mean 32 = .ok (.iconst 0, 1) := by decide +kernel
theorem dX7_mean_33 : decode cX7_mean 33 = .ok (.istore 5, 2) := by decide +kernel
theorem dX7_mean_35 : decode cX7_mean 35 = .ok (.iload 5, 2) := by decide +kernel
theorem dX7_mean_37 : decode cX7_mean 37 = .ok (.aload_n 0, 1) := by decide +kernel
theorem dX7_mean_38 : decode cX7_mean 38 = .ok (.getfield 7, 3) := by decide +kernel
theorem dX7_mean_41 : decode cX7_mean 41 = .ok (.if_icmp .ge 39, 3) := by decide +kernel
theorem dX7_mean_44 : decode cX7_mean 44 = .ok (.iload_n 2, 1) := by decide +kernel
theorem dX7_mean_45 : decode cX7_mean 45 = .ok (.iload 5, 2) := by decide +kernel
theorem dX7_mean_47 : decode cX7_mean 47 = .ok (.ishr, 1) := by decide +kernel
theorem dX7_mean_48 : decode cX7_mean 48 = .ok (.iconst 1, 1) := by decide +kernel
theorem dX7_mean_49 : decode cX7_mean 49 = .ok (.iand, 1) := by decide +kernel
theorem dX7_mean_50 : decode cX7_mean 50 = .ok (.iconst 1, 1) := by decide +kernel
theorem dX7_mean_51 : decode cX7_mean 51 = .ok (.if_icmp .ne 23, 3) := by decide +kernel
theorem dX7_mean_54 : decode cX7_mean 54 = .ok (.aload_n 0, 1) := by decide +kernel
theorem dX7_mean_55 : decode cX7_mean 55 = .ok (.iload_n 1, 1) := by decide +kernel
theorem dX7_mean_56 : decode cX7_mean 56 = .ok (.iconst 1, 1) := by decide +kernel
theorem dX7_mean_57 : decode cX7_mean 57 = .ok (.iload 5, 2) := by decide +kernel
theorem dX7_mean_59 : decode cX7_mean 59 = .ok (.ishl, 1) := by decide +kernel
theorem dX7_mean_60 : decode cX7_mean 60 = .ok (.invokevirtual 200, 3) := by decide +kernel
theorem dX7_mean_63 : decode cX7_mean 63 = .ok (.istore 6, 2) := by decide +kernel
theorem dX7_mean_65 : decode cX7_mean 65 = .ok (.iload 4, 2) := by decide +kernel
theorem dX7_mean_67 : decode cX7_mean 67 = .ok (.aload_n 0, 1) := by decide +kernel
theorem dX7_mean_68 : decode cX7_mean 68 = .ok (.invokevirtual 155, 3) := by decide +kernel
theorem dX7_mean_71 : decode cX7_mean 71 = .ok (.iadd, 1) := by decide +kernel
theorem dX7_mean_72 : decode cX7_mean 72 = .ok (.istore 4, 2) := by decide +kernel
theorem dX7_mean_74 : decode cX7_mean 74 = .ok (.iinc 5 1, 3) := by decide +kernel
theorem dX7_mean_77 : decode cX7_mean 77 = .ok (.goto (-42), 3) := by decide +kernel
theorem dX7_mean_80 : decode cX7_mean 80 = .ok (.iload 4, 2) := by decide +kernel
theorem dX7_mean_82 : decode cX7_mean 82 = .ok (.iload_n 2, 1) := by decide +kernel
theorem dX7_mean_83 : decode cX7_mean 83 = .ok (.invokestatic 189, 3) := by decide +kernel
theorem dX7_mean_86 : decode cX7_mean 86 = .ok (.iload_n 3, 1) := by decide +kernel
theorem dX7_mean_87 : decode cX7_mean 87 = .ok (.invokestatic 213, 3) := by decide +kernel
theorem dX7_mean_90 : decode cX7_mean 90 = .ok (.ireturn, 1) := by decide +kernel
theorem dX7_reached_0 : decode cX7_reached 0 = .ok (.iload_n 1, 1) := by decide +kernel
theorem dX7_reached_1 : decode cX7_reached 1 = .ok (.istore 4, 2) := by decide +kernel
theorem dX7_reached_3 : decode cX7_reached 3 = .ok (.iconst 1, 1) := by decide +kernel
theorem dX7_reached_4 : decode cX7_reached 4 = .ok (.istore 5, 2) := by decide +kernel
theorem dX7_reached_6 : decode cX7_reached 6 = .ok (.iload 5, 2) := by decide +kernel
theorem dX7_reached_8 : decode cX7_reached 8 = .ok (.ifCond .eq 117, 3) := by decide +kernel
theorem dX7_reached_11 : decode cX7_reached 11 = .ok (.iload 4, 2) := by decide +kernel
theorem dX7_reached_13 : decode cX7_reached 13 = .ok (.istore 6, 2) := by decide +kernel
theorem dX7_reached_15 : decode cX7_reached 15 = .ok (.iconst 0, 1) := by decide +kernel
theorem dX7_reached_16 : decode cX7_reached 16 = .ok (.istore 7, 2) := by decide +kernel
theorem dX7_reached_18 : decode cX7_reached 18 = .ok (.iload 7, 2) := by decide +kernel
theorem dX7_reached_20 : decode cX7_reached 20 = .ok (.aload_n 0, 1) := by decide +kernel
theorem dX7_reached_21 : decode cX7_reached 21 = .ok (.getfield 65, 3) := by decide +kernel
theorem dX7_reached_24 : decode cX7_reached 24 = .ok (.if_icmp .ge 84, 3) := by decide +kernel
theorem dX7_reached_27 : decode cX7_reached 27 = .ok (.iconst 1, 1) := by decide +kernel
theorem dX7_reached_28 : decode cX7_reached 28 = .ok (.aload_n 0, 1) := by decide +kernel
theorem dX7_reached_29 : decode cX7_reached 29 = .ok (.getfield 13, 3) := by decide +kernel
theorem dX7_reached_32 : decode cX7_reached 32 = .ok (.iconst 2, 1) := by decide +kernel
theorem dX7_reached_33 : decode cX7_reached 33 = .ok (.iload 7, 2) := by decide +kernel
theorem dX7_reached_35 : decode cX7_reached 35 = .ok (.imul, 1) := by decide +kernel
theorem dX7_reached_36 : decode cX7_reached 36 = .ok (.iaload, 1) := by decide +kernel
theorem dX7_reached_37 : decode cX7_reached 37 = .ok (.ishl, 1) := by decide +kernel
theorem dX7_reached_38 : decode cX7_reached 38 = .ok (.iconst 1, 1) := by decide +kernel
theorem dX7_reached_39 : decode cX7_reached 39 = .ok (.aload_n 0, 1) := by decide +kernel
theorem dX7_reached_40 : decode cX7_reached 40 = .ok (.getfield 13, 3) := by decide +kernel
theorem dX7_reached_43 : decode cX7_reached 43 = .ok (.iconst 2, 1) := by decide +kernel
theorem dX7_reached_44 : decode cX7_reached 44 = .ok (.iload 7, 2) := by decide +kernel
theorem dX7_reached_46 : decode cX7_reached 46 = .ok (.imul, 1) := by decide +kernel
theorem dX7_reached_47 : decode cX7_reached 47 = .ok (.iconst 1, 1) := by decide +kernel
theorem dX7_reached_48 : decode cX7_reached 48 = .ok (.iadd, 1) := by decide +kernel
theorem dX7_reached_49 : decode cX7_reached 49 = .ok (.iaload, 1) := by decide +kernel
theorem dX7_reached_50 : decode cX7_reached 50 = .ok (.ishl, 1) := by decide +kernel
theorem dX7_reached_51 : decode cX7_reached 51 = .ok (.ior, 1) := by decide +kernel
theorem dX7_reached_52 : decode cX7_reached 52 = .ok (.istore 8, 2) := by decide +kernel
theorem dX7_reached_54 : decode cX7_reached 54 = .ok (.iload_n 3, 1) := by decide +kernel
theorem dX7_reached_55 : decode cX7_reached 55 = .ok (.iload 7, 2) := by decide +kernel
theorem dX7_reached_57 : decode cX7_reached 57 = .ok (.ishr, 1) := by decide +kernel
theorem dX7_reached_58 : decode cX7_reached 58 = .ok (.iconst 1, 1) := by decide +kernel
theorem dX7_reached_59 : decode cX7_reached 59 = .ok (.iand, 1) := by decide +kernel
theorem dX7_reached_60 : decode cX7_reached 60 = .ok (.iconst 1, 1) := by decide +kernel
theorem dX7_reached_61 : decode cX7_reached 61 = .ok (.if_icmp .ne 22, 3) := by decide +kernel
theorem dX7_reached_64 : decode cX7_reached 64 = .ok (.iload 4, 2) := by decide +kernel
theorem dX7_reached_66 : decode cX7_reached 66 = .ok (.iload 8, 2) := by decide +kernel
theorem dX7_reached_68 : decode cX7_reached 68 = .ok (.iand, 1) := by decide +kernel
theorem dX7_reached_69 : decode cX7_reached 69 = .ok (.ifCond .eq 14, 3) := by decide +kernel
theorem dX7_reached_72 : decode cX7_reached 72 = .ok (.iload 8, 2) := by decide +kernel
theorem dX7_reached_74 : decode cX7_reached 74 = .ok (.iload_n 2, 1) := by decide +kernel
theorem dX7_reached_75 : decode cX7_reached 75 = .ok (.iand, 1) := by decide +kernel
theorem dX7_reached_76 : decode cX7_reached 76 = .ok (.ifCond .ne 7, 3) := by decide +kernel
theorem dX7_reached_79 : decode cX7_reached 79 = .ok (.iconst 1, 1) := by decide +kernel
theorem dX7_reached_80 : decode cX7_reached 80 = .ok (.goto 4, 3) := by decide +kernel
theorem dX7_reached_83 : decode cX7_reached 83 = .ok (.iconst 0, 1) := by decide +kernel
theorem dX7_reached_84 : decode cX7_reached 84 = .ok (.istore 9, 2) := by decide +kernel
theorem dX7_reached_86 : decode cX7_reached 86 = .ok (.iload 4, 2) := by decide +kernel
theorem dX7_reached_88 : decode cX7_reached 88 = .ok (.iload 9, 2) := by decide +kernel
theorem dX7_reached_90 : decode cX7_reached 90 = .ok (.ifCond .eq 8, 3) := by decide +kernel
theorem dX7_reached_93 : decode cX7_reached 93 = .ok (.iload 8, 2) := by decide +kernel
theorem dX7_reached_95 : decode cX7_reached 95 = .ok (.goto 4, 3) := by decide +kernel
theorem dX7_reached_98 : decode cX7_reached 98 = .ok (.iconst 0, 1) := by decide +kernel
theorem dX7_reached_99 : decode cX7_reached 99 = .ok (.ior, 1) := by decide +kernel
theorem dX7_reached_100 : decode cX7_reached 100 = .ok (.istore 4, 2) := by decide +kernel
theorem dX7_reached_102 : decode cX7_reached 102 = .ok (.iinc 7 1, 3) := by decide +kernel
theorem dX7_reached_105 : decode cX7_reached 105 = .ok (.goto (-87), 3) := by decide +kernel
theorem dX7_reached_108 : decode cX7_reached 108 = .ok (.iload 4, 2) := by decide +kernel
theorem dX7_reached_110 : decode cX7_reached 110 = .ok (.iload 6, 2) := by decide +kernel
theorem dX7_reached_112 : decode cX7_reached 112 = .ok (.if_icmp .eq 7, 3) := by decide +kernel
theorem dX7_reached_115 : decode cX7_reached 115 = .ok (.iconst 1, 1) := by decide +kernel
theorem dX7_reached_116 : decode cX7_reached 116 = .ok (.goto 4, 3) := by decide +kernel
theorem dX7_reached_119 : decode cX7_reached 119 = .ok (.iconst 0, 1) := by decide +kernel
theorem dX7_reached_120 : decode cX7_reached 120 = .ok (.istore 5, 2) := by decide +kernel
theorem dX7_reached_122 : decode cX7_reached 122 = .ok (.goto (-116), 3) := by decide +kernel
theorem dX7_reached_125 : decode cX7_reached 125 = .ok (.iload 4, 2) := by decide +kernel
theorem dX7_reached_127 : decode cX7_reached 127 = .ok (.ireturn, 1) := by decide +kernel
theorem dX7_power_0 : decode cX7_power 0 = .ok (.lconst 1, 1) := by decide +kernel
theorem dX7_power_1 : decode cX7_power 1 = .ok (.lstore_n 3, 1) := by decide +kernel
theorem dX7_power_2 : decode cX7_power 2 = .ok (.iconst 0, 1) := by decide +kernel
theorem dX7_power_3 : decode cX7_power 3 = .ok (.istore 5, 2) := by decide +kernel
theorem dX7_power_5 : decode cX7_power 5 = .ok (.iload 5, 2) := by decide +kernel
theorem dX7_power_7 : decode cX7_power 7 = .ok (.iload_n 2, 1) := by decide +kernel
theorem dX7_power_8 : decode cX7_power 8 = .ok (.if_icmp .ge 13, 3) := by decide +kernel
theorem dX7_power_11 : decode cX7_power 11 = .ok (.lload_n 3, 1) := by decide +kernel
theorem dX7_power_12 : decode cX7_power 12 = .ok (.lload_n 0, 1) := by decide +kernel
theorem dX7_power_13 : decode cX7_power 13 = .ok (.lmul, 1) := by decide +kernel
theorem dX7_power_14 : decode cX7_power 14 = .ok (.lstore_n 3, 1) := by decide +kernel
theorem dX7_power_15 : decode cX7_power 15 = .ok (.iinc 5 1, 3) := by decide +kernel
theorem dX7_power_18 : decode cX7_power 18 = .ok (.goto (-13), 3) := by decide +kernel
theorem dX7_power_21 : decode cX7_power 21 = .ok (.lload_n 3, 1) := by decide +kernel
theorem dX7_power_22 : decode cX7_power 22 = .ok (.lreturn, 1) := by decide +kernel
set_option maxRecDepth 20000 in
theorem ggX7_chance_X7_isNode : GoodIn wsX7_chance wsX7_isNode := goodIn_r _ [10, 11, 12, 13, 9, 14, 31, 32, 33, 34, 35, 36, 37, 38, 39, 40, 41, 42, 43, 44, 45, 46, 47, 48, 49, 50, 51, 52, 53, 54, 55, 56, 57, 58, 59, 60, 61, 62, 63, 64] (by decide +kernel) (by decide +kernel)
set_option maxRecDepth 20000 in
theorem gX7_chance_X7_isNode : GoodIn wsX7_chance (wsV RX7 78 RX7 yX7_isNode wsX7_isNode) := goodIn_app (goodIn_of _ (by decide +kernel)) ggX7_chance_X7_isNode
set_option maxRecDepth 20000 in
theorem ggX7_chance_X7_isFire : GoodIn wsX7_chance wsX7_isFire := goodIn_r _ [18, 19, 20, 21, 9, 22, 11, 12, 13, 14, 31, 32, 33, 34, 35, 36, 37, 38, 39, 40, 41, 42, 43, 44, 45, 46, 47, 48, 49, 50, 51, 52, 53, 54, 55, 56, 57, 58, 59, 60, 61, 62, 63, 64] (by decide +kernel) (by decide +kernel)
set_option maxRecDepth 20000 in
theorem gX7_chance_X7_isFire : GoodIn wsX7_chance (wsV RX7 146 RX7 yX7_isFire wsX7_isFire) := goodIn_app (goodIn_of _ (by decide +kernel)) ggX7_chance_X7_isFire
set_option maxRecDepth 20000 in
theorem ggX7_chance_X7_all : GoodIn wsX7_chance wsX7_all := goodIn_r _ [22, 11, 31, 32, 33, 34, 35, 36, 37, 38, 39, 40, 41, 42, 43, 44, 45, 46, 47, 48, 49, 50, 51, 52, 53, 54, 55, 56, 57, 58, 59, 60, 61, 62, 63, 64] (by decide +kernel) (by decide +kernel)
set_option maxRecDepth 20000 in
theorem gX7_chance_X7_all : GoodIn wsX7_chance (wsV RX7 72 RX7 yX7_all wsX7_all) := goodIn_app (goodIn_of _ (by decide +kernel)) ggX7_chance_X7_all
set_option maxRecDepth 20000 in
theorem ggX7_chance_X7_in : GoodIn wsX7_chance wsX7_in := goodIn_r _ [14] (by decide +kernel) (by decide +kernel)
set_option maxRecDepth 20000 in
theorem gX7_chance_X7_in : GoodIn wsX7_chance (va_wsS RX7 68 yX7_in wsX7_in) := goodIn_app (goodIn_of _ (by decide +kernel)) ggX7_chance_X7_in
set_option maxRecDepth 20000 in
theorem ggX7_chance_X7_reached : GoodIn wsX7_chance wsX7_reached := goodIn_r _ [26, 4, 27, 31, 32, 33, 34, 35, 36, 37, 38, 39, 40, 41, 42, 43, 44, 45, 46, 47, 48, 49, 50, 51, 52, 53, 54, 55, 56, 57, 58, 59, 60, 61, 62, 63, 64] (by decide +kernel) (by decide +kernel)
set_option maxRecDepth 20000 in
theorem gX7_chance_X7_reached : GoodIn wsX7_chance (wsV RX7 225 RX7 yX7_reached wsX7_reached) := goodIn_app (goodIn_of _ (by decide +kernel)) ggX7_chance_X7_reached
set_option maxRecDepth 20000 in
theorem ggX7_chance_X7_power : GoodIn wsX7_chance wsX7_power := goodIn_r _ [30] (by decide +kernel) (by decide +kernel)
set_option maxRecDepth 20000 in
theorem gX7_chance_X7_power : GoodIn wsX7_chance (va_wsS RX7 228 yX7_power wsX7_power) := goodIn_app (goodIn_of _ (by decide +kernel)) ggX7_chance_X7_power
theorem dX7_chance_0 : decode cX7_chance 0 = .ok (.aload_n 0, 1) := by decide +kernel
theorem dX7_chance_1 : decode cX7_chance 1 = .ok (.iload_n 1, 1) := by decide +kernel
theorem dX7_chance_2 : decode cX7_chance 2 = .ok (.invokevirtual 78, 3) := by decide +kernel
theorem dX7_chance_5 : decode cX7_chance 5 = .ok (.ifCond .ne 7, 3) := by decide +kernel
theorem dX7_chance_8 : decode cX7_chance 8 = .ok (.ldc2_w 217, 3) := by decide +kernel
theorem dX7_chance_11 : decode cX7_chance 11 = .ok (.lreturn, 1) := by decide +kernel
theorem dX7_chance_12 : decode cX7_chance 12 = .ok (.aload_n 0, 1) := by decide +kernel
theorem dX7_chance_13 : decode cX7_chance 13 = .ok (.iload_n 2, 1) := by decide +kernel
theorem dX7_chance_14 : decode cX7_chance 14 = .ok (.invokevirtual 146, 3) := by decide +kernel
theorem dX7_chance_17 : decode cX7_chance 17 = .ok (.ifCond .eq 54, 3) := by decide +kernel
theorem dX7_chance_20 : decode cX7_chance 20 = .ok (.iload_n 3, 1) := by decide +kernel
theorem dX7_chance_21 : decode cX7_chance 21 = .ok (.i2l, 1) := by decide +kernel
theorem dX7_chance_22 : decode cX7_chance 22 = .ok (.lconst 0, 1) := by decide +kernel
theorem dX7_chance_23 : decode cX7_chance 23 = .ok (.aload_n 0, 1) := by decide +kernel
theorem dX7_chance_24 : decode cX7_chance 24 = .ok (.invokevirtual 72, 3) := by decide +kernel
theorem dX7_chance_27 : decode cX7_chance 27 = .ok (.i2l, 1) := by decide +kernel
theorem dX7_chance_28 : decode cX7_chance 28 = .ok (.invokestatic 68, 3) := by decide +kernel
theorem dX7_chance_31 : decode cX7_chance 31 = .ok (.ifCond .eq 40, 3) := by decide +kernel
theorem dX7_chance_34 : decode cX7_chance 34 = .ok (.iload 5, 2) := by decide +kernel
theorem dX7_chance_36 : decode cX7_chance 36 = .ok (.i2l, 1) := by decide +kernel
theorem dX7_chance_37 : decode cX7_chance 37 = .ok (.lconst 1, 1) := by decide +kernel
theorem dX7_chance_38 : decode cX7_chance 38 = .ok (.ldc2_w 219, 3) := by decide +kernel
theorem dX7_chance_41 : decode cX7_chance 41 = .ok (.invokestatic 68, 3) := by decide +kernel
theorem dX7_chance_44 : decode cX7_chance 44 = .ok (.ifCond .eq 27, 3) := by decide +kernel
theorem dX7_chance_47 : decode cX7_chance 47 = .ok (.iload 4, 2) := by decide +kernel
theorem dX7_chance_49 : decode cX7_chance 49 = .ok (.i2l, 1) := by decide +kernel
theorem dX7_chance_50 : decode cX7_chance 50 = .ok (.lconst 0, 1) := by decide +kernel
theorem dX7_chance_51 : decode cX7_chance 51 = .ok (.iload 5, 2) := by decide +kernel
theorem dX7_chance_53 : decode cX7_chance 53 = .ok (.i2l, 1) := by decide +kernel
theorem dX7_chance_54 : decode cX7_chance 54 = .ok (.invokestatic 68, 3) := by decide +kernel
theorem dX7_chance_57 : decode cX7_chance 57 = .ok (.ifCond .eq 14, 3) := by decide +kernel
theorem dX7_chance_60 : decode cX7_chance 60 = .ok (.iload 6, 2) := by decide +kernel
theorem dX7_chance_62 : decode cX7_chance 62 = .ok (.i2l, 1) := by decide +kernel
theorem dX7_chance_63 : decode cX7_chance 63 = .ok (.lconst 0, 1) := by decide +kernel
theorem dX7_chance_64 : decode cX7_chance 64 = .ok (.lconst 1, 1) := by decide +kernel
theorem dX7_chance_65 : decode cX7_chance 65 = .ok (.invokestatic 68, 3) := by decide +kernel
theorem dX7_chance_68 : decode cX7_chance 68 = .ok (.ifCond .ne 7, 3) := by decide +kernel
theorem dX7_chance_71 : decode cX7_chance 71 = .ok (.ldc2_w 221, 3) := by decide +kernel
theorem dX7_chance_74 : decode cX7_chance 74 = .ok (.lreturn, 1) := by decide +kernel
theorem dX7_chance_75 : decode cX7_chance 75 = .ok (.aload_n 0, 1) := by decide +kernel
theorem dX7_chance_76 : decode cX7_chance 76 = .ok (.getfield 65, 3) := by decide +kernel
theorem dX7_chance_79 : decode cX7_chance 79 = .ok (.bipush 12, 2) := by decide +kernel
theorem dX7_chance_81 : decode cX7_chance 81 = .ok (.if_icmp .le 7, 3) := by decide +kernel
theorem dX7_chance_84 : decode cX7_chance 84 = .ok (.ldc2_w 223, 3) := by decide +kernel
theorem dX7_chance_87 : decode cX7_chance 87 = .ok (.lreturn, 1) := by decide +kernel
theorem dX7_chance_88 : decode cX7_chance 88 = .ok (.lconst 0, 1) := by decide +kernel
theorem dX7_chance_89 : decode cX7_chance 89 = .ok (.lstore 7, 2) := by decide +kernel
theorem dX7_chance_91 : decode cX7_chance 91 = .ok (.iconst 0, 1) := by decide +kernel
theorem dX7_chance_92 : decode cX7_chance 92 = .ok (.istore 9, 2) := by decide +kernel
theorem dX7_chance_94 : decode cX7_chance 94 = .ok (.iload 9, 2) := by decide +kernel
theorem dX7_chance_96 : decode cX7_chance 96 = .ok (.iconst 1, 1) := by decide +kernel
theorem dX7_chance_97 : decode cX7_chance 97 = .ok (.aload_n 0, 1) := by decide +kernel
theorem dX7_chance_98 : decode cX7_chance 98 = .ok (.getfield 65, 3) := by decide +kernel
theorem dX7_chance_101 : decode cX7_chance 101 = .ok (.ishl, 1) := by decide +kernel
theorem dX7_chance_102 : decode cX7_chance 102 = .ok (.if_icmp .ge 108, 3) := by decide +kernel
theorem dX7_chance_105 : decode cX7_chance 105 = .ok (.iconst 0, 1) := by decide +kernel
theorem dX7_chance_106 : decode cX7_chance 106 = .ok (.istore 10, 2) := by decide +kernel
theorem dX7_chance_108 : decode cX7_chance 108 = .ok (.iconst 0, 1) := by decide +kernel
theorem dX7_chance_109 : decode cX7_chance 109 = .ok (.istore 11, 2) := by decide +kernel
theorem dX7_chance_111 : decode cX7_chance 111 = .ok (.iload 11, 2) := by decide +kernel
theorem dX7_chance_113 : decode cX7_chance 113 = .ok (.aload_n 0, 1) := by decide +kernel
theorem dX7_chance_114 : decode cX7_chance 114 = .ok (.getfield 65, 3) := by decide +kernel
theorem dX7_chance_117 : decode cX7_chance 117 = .ok (.if_icmp .ge 21, 3) := by decide +kernel
theorem dX7_chance_120 : decode cX7_chance 120 = .ok (.iload 10, 2) := by decide +kernel
theorem dX7_chance_122 : decode cX7_chance 122 = .ok (.iload 9, 2) := by decide +kernel
theorem dX7_chance_124 : decode cX7_chance 124 = .ok (.iload 11, 2) := by decide +kernel
theorem dX7_chance_126 : decode cX7_chance 126 = .ok (.ishr, 1) := by decide +kernel
theorem dX7_chance_127 : decode cX7_chance 127 = .ok (.iconst 1, 1) := by decide +kernel
theorem dX7_chance_128 : decode cX7_chance 128 = .ok (.iand, 1) := by decide +kernel
theorem dX7_chance_129 : decode cX7_chance 129 = .ok (.iadd, 1) := by decide +kernel
theorem dX7_chance_130 : decode cX7_chance 130 = .ok (.istore 10, 2) := by decide +kernel
theorem dX7_chance_132 : decode cX7_chance 132 = .ok (.iinc 11 1, 3) := by decide +kernel
theorem dX7_chance_135 : decode cX7_chance 135 = .ok (.goto (-24), 3) := by decide +kernel
theorem dX7_chance_138 : decode cX7_chance 138 = .ok (.aload_n 0, 1) := by decide +kernel
theorem dX7_chance_139 : decode cX7_chance 139 = .ok (.iload_n 2, 1) := by decide +kernel
theorem dX7_chance_140 : decode cX7_chance 140 = .ok (.iload_n 3, 1) := by decide +kernel
theorem dX7_chance_141 : decode cX7_chance 141 = .ok (.iload_n 2, 1) := by decide +kernel
theorem dX7_chance_142 : decode cX7_chance 142 = .ok (.iconst (-1), 1) := by decide +kernel
theorem dX7_chance_143 : decode cX7_chance 143 = .ok (.ixor, 1) := by decide +kernel
theorem dX7_chance_144 : decode cX7_chance 144 = .ok (.iand, 1) := by decide +kernel
theorem dX7_chance_145 : decode cX7_chance 145 = .ok (.iload 9, 2) := by decide +kernel
theorem dX7_chance_147 : decode cX7_chance 147 = .ok (.invokevirtual 225, 3) := by decide +kernel
theorem dX7_chance_150 : decode cX7_chance 150 = .ok (.iload_n 1, 1) := by decide +kernel
theorem dX7_chance_151 : decode cX7_chance 151 = .ok (.ishr, 1) := by decide +kernel
theorem dX7_chance_152 : decode cX7_chance 152 = .ok (.iconst 1, 1) := by decide +kernel
theorem dX7_chance_153 : decode cX7_chance 153 = .ok (.iand, 1) := by decide +kernel
theorem dX7_chance_154 : decode cX7_chance 154 = .ok (.iconst 1, 1) := by decide +kernel
theorem dX7_chance_155 : decode cX7_chance 155 = .ok (.if_icmp .ne 7, 3) := by decide +kernel
theorem dX7_chance_158 : decode cX7_chance 158 = .ok (.iconst 1, 1) := by decide +kernel
theorem dX7_chance_159 : decode cX7_chance 159 = .ok (.goto 4, 3) := by decide +kernel
theorem dX7_chance_162 : decode cX7_chance 162 = .ok (.iconst 0, 1) := by decide +kernel
theorem dX7_chance_163 : decode cX7_chance 163 = .ok (.istore 11, 2) := by decide +kernel
theorem dX7_chance_165 : decode cX7_chance 165 = .ok (.lload 7, 2) := by decide +kernel
theorem dX7_chance_167 : decode cX7_chance 167 = .ok (.iload 11, 2) := by decide +kernel
theorem dX7_chance_169 : decode cX7_chance 169 = .ok (.ifCond .eq 31, 3) := by decide +kernel
theorem dX7_chance_172 : decode cX7_chance 172 = .ok (.iload 4, 2) := by decide +kernel
theorem dX7_chance_174 : decode cX7_chance 174 = .ok (.i2l, 1) := by decide +kernel
theorem dX7_chance_175 : decode cX7_chance 175 = .ok (.iload 10, 2) := by decide +kernel
theorem dX7_chance_177 : decode cX7_chance 177 = .ok (.invokestatic 228, 3) := by decide +kernel
theorem dX7_chance_180 : decode cX7_chance 180 = .ok (.iload 5, 2) := by decide +kernel
theorem dX7_chance_182 : decode cX7_chance 182 = .ok (.iload 4, 2) := by decide +kernel
theorem dX7_chance_184 : decode cX7_chance 184 = .ok (.isub, 1) := by decide +kernel
theorem dX7_chance_185 : decode cX7_chance 185 = .ok (.i2l, 1) := by decide +kernel
theorem dX7_chance_186 : decode cX7_chance 186 = .ok (.aload_n 0, 1) := by decide +kernel
theorem dX7_chance_187 : decode cX7_chance 187 = .ok (.getfield 65, 3) := by decide +kernel
theorem dX7_chance_190 : decode cX7_chance 190 = .ok (.iload 10, 2) := by decide +kernel
theorem dX7_chance_192 : decode cX7_chance 192 = .ok (.isub, 1) := by decide +kernel
theorem dX7_chance_193 : decode cX7_chance 193 = .ok (.invokestatic 228, 3) := by decide +kernel
theorem dX7_chance_196 : decode cX7_chance 196 = .ok (.lmul, 1) := by decide +kernel
theorem dX7_chance_197 : decode cX7_chance 197 = .ok (.goto 4, 3) := by decide +kernel
theorem dX7_chance_200 : decode cX7_chance 200 = .ok (.lconst 0, 1) := by decide +kernel
theorem dX7_chance_201 : decode cX7_chance 201 = .ok (.ladd, 1) := by decide +kernel
theorem dX7_chance_202 : decode cX7_chance 202 = .ok (.lstore 7, 2) := by decide +kernel
theorem dX7_chance_204 : decode cX7_chance 204 = .ok (.iinc 9 1, 3) := by decide +kernel
theorem dX7_chance_207 : decode cX7_chance 207 = .ok (.goto (-113), 3) := by decide +kernel
theorem dX7_chance_210 : decode cX7_chance 210 = .ok (.iload 5, 2) := by decide +kernel
theorem dX7_chance_212 : decode cX7_chance 212 = .ok (.i2l, 1) := by decide +kernel
theorem dX7_chance_213 : decode cX7_chance 213 = .ok (.aload_n 0, 1) := by decide +kernel
theorem dX7_chance_214 : decode cX7_chance 214 = .ok (.getfield 65, 3) := by decide +kernel
theorem dX7_chance_217 : decode cX7_chance 217 = .ok (.invokestatic 228, 3) := by decide +kernel
theorem dX7_chance_220 : decode cX7_chance 220 = .ok (.lstore 9, 2) := by decide +kernel
theorem dX7_chance_222 : decode cX7_chance 222 = .ok (.lload 7, 2) := by decide +kernel
theorem dX7_chance_224 : decode cX7_chance 224 = .ok (.lstore 11, 2) := by decide +kernel
theorem dX7_chance_226 : decode cX7_chance 226 = .ok (.lload 9, 2) := by decide +kernel
theorem dX7_chance_228 : decode cX7_chance 228 = .ok (.lstore 13, 2) := by decide +kernel
theorem dX7_chance_230 : decode cX7_chance 230 = .ok (.lload 13, 2) := by decide +kernel
theorem dX7_chance_232 : decode cX7_chance 232 = .ok (.lconst 0, 1) := by decide +kernel
theorem dX7_chance_233 : decode cX7_chance 233 = .ok (.lcmp, 1) := by decide +kernel
theorem dX7_chance_234 : decode cX7_chance 234 = .ok (.ifCond .eq 21, 3) := by decide +kernel
theorem dX7_chance_237 : decode cX7_chance 237 = .ok (.lload 11, 2) := by decide +kernel
theorem dX7_chance_239 : decode cX7_chance 239 = .ok (.lload 13, 2) := by decide +kernel
theorem dX7_chance_241 : decode cX7_chance 241 = .ok (.lrem, 1) := by decide +kernel
theorem dX7_chance_242 : decode cX7_chance 242 = .ok (.lstore 15, 2) := by decide +kernel
theorem dX7_chance_244 : decode cX7_chance 244 = .ok (.lload 13, 2) := by decide +kernel
theorem dX7_chance_246 : decode cX7_chance 246 = .ok (.lstore 11, 2) := by decide +kernel
theorem dX7_chance_248 : decode cX7_chance 248 = .ok (.lload 15, 2) := by decide +kernel
theorem dX7_chance_250 : decode cX7_chance 250 = .ok (.lstore 13, 2) := by decide +kernel
theorem dX7_chance_252 : decode cX7_chance 252 = .ok (.goto (-22), 3) := by decide +kernel
theorem dX7_chance_255 : decode cX7_chance 255 = .ok (.iload 6, 2) := by decide +kernel
theorem dX7_chance_257 : decode cX7_chance 257 = .ok (.ifCond .ne 11, 3) := by decide +kernel
theorem dX7_chance_260 : decode cX7_chance 260 = .ok (.lload 7, 2) := by decide +kernel
theorem dX7_chance_262 : decode cX7_chance 262 = .ok (.lload 11, 2) := by decide +kernel
theorem dX7_chance_264 : decode cX7_chance 264 = .ok (.ldiv, 1) := by decide +kernel
theorem dX7_chance_265 : decode cX7_chance 265 = .ok (.goto 8, 3) := by decide +kernel
theorem dX7_chance_268 : decode cX7_chance 268 = .ok (.lload 9, 2) := by decide +kernel
theorem dX7_chance_270 : decode cX7_chance 270 = .ok (.lload 11, 2) := by decide +kernel
theorem dX7_chance_272 : decode cX7_chance 272 = .ok (.ldiv, 1) := by decide +kernel
theorem dX7_chance_273 : decode cX7_chance 273 = .ok (.lreturn, 1) := by decide +kernel
theorem dX7_square_0 : decode cX7_square 0 = .ok (.bipush 61, 2) := by decide +kernel
theorem dX7_square_2 : decode cX7_square 2 = .ok (.iload_n 1, 1) := by decide +kernel
theorem dX7_square_3 : decode cX7_square 3 = .ok (.bipush 30, 2) := by decide +kernel
theorem dX7_square_5 : decode cX7_square 5 = .ok (.iadd, 1) := by decide +kernel
theorem dX7_square_6 : decode cX7_square 6 = .ok (.imul, 1) := by decide +kernel
theorem dX7_square_7 : decode cX7_square 7 = .ok (.iload_n 0, 1) := by decide +kernel
theorem dX7_square_8 : decode cX7_square 8 = .ok (.iadd, 1) := by decide +kernel
theorem dX7_square_9 : decode cX7_square 9 = .ok (.bipush 30, 2) := by decide +kernel
theorem dX7_square_11 : decode cX7_square 11 = .ok (.iadd, 1) := by decide +kernel
theorem dX7_square_12 : decode cX7_square 12 = .ok (.ireturn, 1) := by decide +kernel
set_option maxRecDepth 20000 in
theorem ggX7_wall_X7_in : GoodIn wsX7_wall wsX7_in := goodIn_r _ [9] (by decide +kernel) (by decide +kernel)
set_option maxRecDepth 20000 in
theorem gX7_wall_X7_in : GoodIn wsX7_wall (va_wsS RX7 68 yX7_in wsX7_in) := goodIn_app (goodIn_of _ (by decide +kernel)) ggX7_wall_X7_in
theorem dX7_wall_0 : decode cX7_wall 0 = .ok (.iload_n 1, 1) := by decide +kernel
theorem dX7_wall_1 : decode cX7_wall 1 = .ok (.i2l, 1) := by decide +kernel
theorem dX7_wall_2 : decode cX7_wall 2 = .ok (.ldc2_w 232, 3) := by decide +kernel
theorem dX7_wall_5 : decode cX7_wall 5 = .ok (.ldc2_w 234, 3) := by decide +kernel
theorem dX7_wall_8 : decode cX7_wall 8 = .ok (.invokestatic 68, 3) := by decide +kernel
theorem dX7_wall_11 : decode cX7_wall 11 = .ok (.ifCond .eq 37, 3) := by decide +kernel
theorem dX7_wall_14 : decode cX7_wall 14 = .ok (.iload_n 2, 1) := by decide +kernel
theorem dX7_wall_15 : decode cX7_wall 15 = .ok (.i2l, 1) := by decide +kernel
theorem dX7_wall_16 : decode cX7_wall 16 = .ok (.ldc2_w 232, 3) := by decide +kernel
theorem dX7_wall_19 : decode cX7_wall 19 = .ok (.ldc2_w 234, 3) := by decide +kernel
theorem dX7_wall_22 : decode cX7_wall 22 = .ok (.invokestatic 68, 3) := by decide +kernel
theorem dX7_wall_25 : decode cX7_wall 25 = .ok (.ifCond .eq 23, 3) := by decide +kernel
theorem dX7_wall_28 : decode cX7_wall 28 = .ok (.iload_n 1, 1) := by decide +kernel
theorem dX7_wall_29 : decode cX7_wall 29 = .ok (.ifCond .ne 7, 3) := by decide +kernel
theorem dX7_wall_32 : decode cX7_wall 32 = .ok (.iload_n 2, 1) := by decide +kernel
theorem dX7_wall_33 : decode cX7_wall 33 = .ok (.ifCond .eq 15, 3) := by decide +kernel
theorem dX7_wall_36 : decode cX7_wall 36 = .ok (.iload_n 3, 1) := by decide +kernel
theorem dX7_wall_37 : decode cX7_wall 37 = .ok (.i2l, 1) := by decide +kernel
theorem dX7_wall_38 : decode cX7_wall 38 = .ok (.lconst 1, 1) := by decide +kernel
theorem dX7_wall_39 : decode cX7_wall 39 = .ok (.ldc2_w 86, 3) := by decide +kernel
theorem dX7_wall_42 : decode cX7_wall 42 = .ok (.invokestatic 68, 3) := by decide +kernel
theorem dX7_wall_45 : decode cX7_wall 45 = .ok (.ifCond .ne 7, 3) := by decide +kernel
theorem dX7_wall_48 : decode cX7_wall 48 = .ok (.sipush (-1002), 3) := by decide +kernel
theorem dX7_wall_51 : decode cX7_wall 51 = .ok (.ireturn, 1) := by decide +kernel
theorem dX7_wall_52 : decode cX7_wall 52 = .ok (.iconst 0, 1) := by decide +kernel
theorem dX7_wall_53 : decode cX7_wall 53 = .ok (.istore 4, 2) := by decide +kernel
theorem dX7_wall_55 : decode cX7_wall 55 = .ok (.iload 4, 2) := by decide +kernel
theorem dX7_wall_57 : decode cX7_wall 57 = .ok (.aload_n 0, 1) := by decide +kernel
theorem dX7_wall_58 : decode cX7_wall 58 = .ok (.getfield 96, 3) := by decide +kernel
theorem dX7_wall_61 : decode cX7_wall 61 = .ok (.if_icmp .ge 41, 3) := by decide +kernel
theorem dX7_wall_64 : decode cX7_wall 64 = .ok (.aload_n 0, 1) := by decide +kernel
theorem dX7_wall_65 : decode cX7_wall 65 = .ok (.getfield 35, 3) := by decide +kernel
theorem dX7_wall_68 : decode cX7_wall 68 = .ok (.iconst 3, 1) := by decide +kernel
theorem dX7_wall_69 : decode cX7_wall 69 = .ok (.iload 4, 2) := by decide +kernel
theorem dX7_wall_71 : decode cX7_wall 71 = .ok (.imul, 1) := by decide +kernel
theorem dX7_wall_72 : decode cX7_wall 72 = .ok (.iaload, 1) := by decide +kernel
theorem dX7_wall_73 : decode cX7_wall 73 = .ok (.iload_n 1, 1) := by decide +kernel
theorem dX7_wall_74 : decode cX7_wall 74 = .ok (.if_icmp .ne 22, 3) := by decide +kernel
theorem dX7_wall_77 : decode cX7_wall 77 = .ok (.aload_n 0, 1) := by decide +kernel
theorem dX7_wall_78 : decode cX7_wall 78 = .ok (.getfield 35, 3) := by decide +kernel
theorem dX7_wall_81 : decode cX7_wall 81 = .ok (.iconst 3, 1) := by decide +kernel
theorem dX7_wall_82 : decode cX7_wall 82 = .ok (.iload 4, 2) := by decide +kernel
theorem dX7_wall_84 : decode cX7_wall 84 = .ok (.imul, 1) := by decide +kernel
theorem dX7_wall_85 : decode cX7_wall 85 = .ok (.iconst 1, 1) := by decide +kernel
theorem dX7_wall_86 : decode cX7_wall 86 = .ok (.iadd, 1) := by decide +kernel
theorem dX7_wall_87 : decode cX7_wall 87 = .ok (.iaload, 1) := by decide +kernel
theorem dX7_wall_88 : decode cX7_wall 88 = .ok (.iload_n 2, 1) := by decide +kernel
theorem dX7_wall_89 : decode cX7_wall 89 = .ok (.if_icmp .ne 7, 3) := by decide +kernel
theorem dX7_wall_92 : decode cX7_wall 92 = .ok (.sipush (-1003), 3) := by decide +kernel
theorem dX7_wall_95 : decode cX7_wall 95 = .ok (.ireturn, 1) := by decide +kernel
theorem dX7_wall_96 : decode cX7_wall 96 = .ok (.iinc 4 1, 3) := by decide +kernel
theorem dX7_wall_99 : decode cX7_wall 99 = .ok (.goto (-44), 3) := by decide +kernel
theorem dX7_wall_102 : decode cX7_wall 102 = .ok (.aload_n 0, 1) := by decide +kernel
theorem dX7_wall_103 : decode cX7_wall 103 = .ok (.getfield 96, 3) := by decide +kernel
theorem dX7_wall_106 : decode cX7_wall 106 = .ok (.bipush 40, 2) := by decide +kernel
theorem dX7_wall_108 : decode cX7_wall 108 = .ok (.if_icmp .ne 7, 3) := by decide +kernel
theorem dX7_wall_111 : decode cX7_wall 111 = .ok (.sipush (-1004), 3) := by decide +kernel
theorem dX7_wall_114 : decode cX7_wall 114 = .ok (.ireturn, 1) := by decide +kernel
theorem dX7_wall_115 : decode cX7_wall 115 = .ok (.aload_n 0, 1) := by decide +kernel
theorem dX7_wall_116 : decode cX7_wall 116 = .ok (.getfield 35, 3) := by decide +kernel
theorem dX7_wall_119 : decode cX7_wall 119 = .ok (.iconst 3, 1) := by decide +kernel
theorem dX7_wall_120 : decode cX7_wall 120 = .ok (.aload_n 0, 1) := by decide +kernel
theorem dX7_wall_121 : decode cX7_wall 121 = .ok (.getfield 96, 3) := by decide +kernel
theorem dX7_wall_124 : decode cX7_wall 124 = .ok (.imul, 1) := by decide +kernel
theorem dX7_wall_125 : decode cX7_wall 125 = .ok (.iload_n 1, 1) := by decide +kernel
theorem dX7_wall_126 : decode cX7_wall 126 = .ok (.iastore, 1) := by decide +kernel
theorem dX7_wall_127 : decode cX7_wall 127 = .ok (.aload_n 0, 1) := by decide +kernel
theorem dX7_wall_128 : decode cX7_wall 128 = .ok (.getfield 35, 3) := by decide +kernel
theorem dX7_wall_131 : decode cX7_wall 131 = .ok (.iconst 3, 1) := by decide +kernel
theorem dX7_wall_132 : decode cX7_wall 132 = .ok (.aload_n 0, 1) := by decide +kernel
theorem dX7_wall_133 : decode cX7_wall 133 = .ok (.getfield 96, 3) := by decide +kernel
theorem dX7_wall_136 : decode cX7_wall 136 = .ok (.imul, 1) := by decide +kernel
theorem dX7_wall_137 : decode cX7_wall 137 = .ok (.iconst 1, 1) := by decide +kernel
theorem dX7_wall_138 : decode cX7_wall 138 = .ok (.iadd, 1) := by decide +kernel
theorem dX7_wall_139 : decode cX7_wall 139 = .ok (.iload_n 2, 1) := by decide +kernel
theorem dX7_wall_140 : decode cX7_wall 140 = .ok (.iastore, 1) := by decide +kernel
theorem dX7_wall_141 : decode cX7_wall 141 = .ok (.aload_n 0, 1) := by decide +kernel
theorem dX7_wall_142 : decode cX7_wall 142 = .ok (.getfield 35, 3) := by decide +kernel
theorem dX7_wall_145 : decode cX7_wall 145 = .ok (.iconst 3, 1) := by decide +kernel
theorem dX7_wall_146 : decode cX7_wall 146 = .ok (.aload_n 0, 1) := by decide +kernel
theorem dX7_wall_147 : decode cX7_wall 147 = .ok (.getfield 96, 3) := by decide +kernel
theorem dX7_wall_150 : decode cX7_wall 150 = .ok (.imul, 1) := by decide +kernel
theorem dX7_wall_151 : decode cX7_wall 151 = .ok (.iconst 2, 1) := by decide +kernel
theorem dX7_wall_152 : decode cX7_wall 152 = .ok (.iadd, 1) := by decide +kernel
theorem dX7_wall_153 : decode cX7_wall 153 = .ok (.iload_n 3, 1) := by decide +kernel
theorem dX7_wall_154 : decode cX7_wall 154 = .ok (.iastore, 1) := by decide +kernel
theorem dX7_wall_155 : decode cX7_wall 155 = .ok (.aload_n 0, 1) := by decide +kernel
theorem dX7_wall_156 : decode cX7_wall 156 = .ok (.dup, 1) := by decide +kernel
theorem dX7_wall_157 : decode cX7_wall 157 = .ok (.getfield 96, 3) := by decide +kernel
theorem dX7_wall_160 : decode cX7_wall 160 = .ok (.iconst 1, 1) := by decide +kernel
theorem dX7_wall_161 : decode cX7_wall 161 = .ok (.iadd, 1) := by decide +kernel
theorem dX7_wall_162 : decode cX7_wall 162 = .ok (.putfield 96, 3) := by decide +kernel
theorem dX7_wall_165 : decode cX7_wall 165 = .ok (.aload_n 0, 1) := by decide +kernel
theorem dX7_wall_166 : decode cX7_wall 166 = .ok (.getfield 96, 3) := by decide +kernel
theorem dX7_wall_169 : decode cX7_wall 169 = .ok (.ireturn, 1) := by decide +kernel
theorem dX7_raze_0 : decode cX7_raze 0 = .ok (.aload_n 0, 1) := by decide +kernel
theorem dX7_raze_1 : decode cX7_raze 1 = .ok (.getfield 96, 3) := by decide +kernel
theorem dX7_raze_4 : decode cX7_raze 4 = .ok (.istore_n 1, 1) := by decide +kernel
theorem dX7_raze_5 : decode cX7_raze 5 = .ok (.aload_n 0, 1) := by decide +kernel
theorem dX7_raze_6 : decode cX7_raze 6 = .ok (.iconst 0, 1) := by decide +kernel
theorem dX7_raze_7 : decode cX7_raze 7 = .ok (.putfield 96, 3) := by decide +kernel
theorem dX7_raze_10 : decode cX7_raze 10 = .ok (.iload_n 1, 1) := by decide +kernel
theorem dX7_raze_11 : decode cX7_raze 11 = .ok (.ireturn, 1) := by decide +kernel
set_option maxRecDepth 20000 in
theorem ggX7_build_X7_square : GoodIn wsX7_build wsX7_square := goodIn_r _ [8] (by decide +kernel) (by decide +kernel)
set_option maxRecDepth 20000 in
theorem gX7_build_X7_square : GoodIn wsX7_build (va_wsS RX7 236 yX7_square wsX7_square) := goodIn_app (goodIn_of _ (by decide +kernel)) ggX7_build_X7_square
theorem dX7_build_0 : decode cX7_build 0 = .ok (.iconst 0, 1) := by decide +kernel
theorem dX7_build_1 : decode cX7_build 1 = .ok (.istore_n 2, 1) := by decide +kernel
theorem dX7_build_2 : decode cX7_build 2 = .ok (.iload_n 2, 1) := by decide +kernel
theorem dX7_build_3 : decode cX7_build 3 = .ok (.aload_n 0, 1) := by decide +kernel
theorem dX7_build_4 : decode cX7_build 4 = .ok (.getfield 96, 3) := by decide +kernel
theorem dX7_build_7 : decode cX7_build 7 = .ok (.if_icmp .ge 90, 3) := by decide +kernel
theorem dX7_build_10 : decode cX7_build 10 = .ok (.aload_n 0, 1) := by decide +kernel
theorem dX7_build_11 : decode cX7_build 11 = .ok (.getfield 35, 3) := by decide +kernel
theorem dX7_build_14 : decode cX7_build 14 = .ok (.iconst 3, 1) := by decide +kernel
theorem dX7_build_15 : decode cX7_build 15 = .ok (.iload_n 2, 1) := by decide +kernel
theorem dX7_build_16 : decode cX7_build 16 = .ok (.imul, 1) := by decide +kernel
theorem dX7_build_17 : decode cX7_build 17 = .ok (.iconst 2, 1) := by decide +kernel
theorem dX7_build_18 : decode cX7_build 18 = .ok (.iadd, 1) := by decide +kernel
theorem dX7_build_19 : decode cX7_build 19 = .ok (.iaload, 1) := by decide +kernel
theorem dX7_build_20 : decode cX7_build 20 = .ok (.iload_n 1, 1) := by decide +kernel
theorem dX7_build_21 : decode cX7_build 21 = .ok (.if_icmp .ne 70, 3) := by decide +kernel
theorem dX7_build_24 : decode cX7_build 24 = .ok (.aload_n 0, 1) := by decide +kernel
theorem dX7_build_25 : decode cX7_build 25 = .ok (.getfield 35, 3) := by decide +kernel
theorem dX7_build_28 : decode cX7_build 28 = .ok (.iconst 3, 1) := by decide +kernel
theorem dX7_build_29 : decode cX7_build 29 = .ok (.iload_n 2, 1) := by decide +kernel
theorem dX7_build_30 : decode cX7_build 30 = .ok (.imul, 1) := by decide +kernel
theorem dX7_build_31 : decode cX7_build 31 = .ok (.iaload, 1) := by decide +kernel
theorem dX7_build_32 : decode cX7_build 32 = .ok (.aload_n 0, 1) := by decide +kernel
theorem dX7_build_33 : decode cX7_build 33 = .ok (.getfield 35, 3) := by decide +kernel
theorem dX7_build_36 : decode cX7_build 36 = .ok (.iconst 3, 1) := by decide +kernel
theorem dX7_build_37 : decode cX7_build 37 = .ok (.iload_n 2, 1) := by decide +kernel
theorem dX7_build_38 : decode cX7_build 38 = .ok (.imul, 1) := by decide +kernel
theorem dX7_build_39 : decode cX7_build 39 = .ok (.iconst 1, 1) := by decide +kernel
theorem dX7_build_40 : decode cX7_build 40 = .ok (.iadd, 1) := by decide +kernel
theorem dX7_build_41 : decode cX7_build 41 = .ok (.iaload, 1) := by decide +kernel
theorem dX7_build_42 : decode cX7_build 42 = .ok (.invokestatic 236, 3) := by decide +kernel
theorem dX7_build_45 : decode cX7_build 45 = .ok (.istore_n 3, 1) := by decide +kernel
theorem dX7_build_46 : decode cX7_build 46 = .ok (.aload_n 0, 1) := by decide +kernel
theorem dX7_build_47 : decode cX7_build 47 = .ok (.dup, 1) := by decide +kernel
theorem dX7_build_48 : decode cX7_build 48 = .ok (.getfield 239, 3) := by decide +kernel
theorem dX7_build_51 : decode cX7_build 51 = .ok (.aload_n 0, 1) := by decide +kernel
theorem dX7_build_52 : decode cX7_build 52 = .ok (.getfield 59, 3) := by decide +kernel
theorem dX7_build_55 : decode cX7_build 55 = .ok (.iload_n 3, 1) := by decide +kernel
theorem dX7_build_56 : decode cX7_build 56 = .ok (.iaload, 1) := by decide +kernel
theorem dX7_build_57 : decode cX7_build 57 = .ok (.iconst 1, 1) := by decide +kernel
theorem dX7_build_58 : decode cX7_build 58 = .ok (.if_icmp .ne 7, 3) := by decide +kernel
theorem dX7_build_61 : decode cX7_build 61 = .ok (.iconst 1, 1) := by decide +kernel
theorem dX7_build_62 : decode cX7_build 62 = .ok (.goto 4, 3) := by decide +kernel
theorem dX7_build_65 : decode cX7_build 65 = .ok (.iconst 0, 1) := by decide +kernel
theorem dX7_build_66 : decode cX7_build 66 = .ok (.iadd, 1) := by decide +kernel
theorem dX7_build_67 : decode cX7_build 67 = .ok (.putfield 239, 3) := by decide +kernel
theorem dX7_build_70 : decode cX7_build 70 = .ok (.aload_n 0, 1) := by decide +kernel
theorem dX7_build_71 : decode cX7_build 71 = .ok (.getfield 59, 3) := by decide +kernel
theorem dX7_build_74 : decode cX7_build 74 = .ok (.iload_n 3, 1) := by decide +kernel
theorem dX7_build_75 : decode cX7_build 75 = .ok (.aload_n 0, 1) := by decide +kernel
theorem dX7_build_76 : decode cX7_build 76 = .ok (.getfield 59, 3) := by decide +kernel
theorem dX7_build_79 : decode cX7_build 79 = .ok (.iload_n 3, 1) := by decide +kernel
theorem dX7_build_80 : decode cX7_build 80 = .ok (.iaload, 1) := by decide +kernel
theorem dX7_build_81 : decode cX7_build 81 = .ok (.iconst 1, 1) := by decide +kernel
theorem dX7_build_82 : decode cX7_build 82 = .ok (.if_icmp .ne 7, 3) := by decide +kernel
theorem dX7_build_85 : decode cX7_build 85 = .ok (.iconst 1, 1) := by decide +kernel
theorem dX7_build_86 : decode cX7_build 86 = .ok (.goto 4, 3) := by decide +kernel
theorem dX7_build_89 : decode cX7_build 89 = .ok (.iconst 2, 1) := by decide +kernel
theorem dX7_build_90 : decode cX7_build 90 = .ok (.iastore, 1) := by decide +kernel
theorem dX7_build_91 : decode cX7_build 91 = .ok (.iinc 2 1, 3) := by decide +kernel
theorem dX7_build_94 : decode cX7_build 94 = .ok (.goto (-92), 3) := by decide +kernel
theorem dX7_build_97 : decode cX7_build 97 = .ok (.return_, 1) := by decide +kernel
set_option maxRecDepth 20000 in
theorem ggX7_touches_X7_square : GoodIn wsX7_touches wsX7_square := goodIn_r _ [5] (by decide +kernel) (by decide +kernel)
set_option maxRecDepth 20000 in
theorem gX7_touches_X7_square : GoodIn wsX7_touches (va_wsS RX7 236 yX7_square wsX7_square) := goodIn_app (goodIn_of _ (by decide +kernel)) ggX7_touches_X7_square
theorem dX7_touches_0 : decode cX7_touches 0 = .ok (.iload_n 1, 1) := by decide +kernel
theorem dX7_touches_1 : decode cX7_touches 1 = .ok (.bipush (-30), 2) := by decide +kernel
theorem dX7_touches_3 : decode cX7_touches 3 = .ok (.if_icmp .le 19, 3) := by decide +kernel
theorem dX7_touches_6 : decode cX7_touches 6 = .ok (.aload_n 0, 1) := by decide +kernel
theorem dX7_touches_7 : decode cX7_touches 7 = .ok (.getfield 59, 3) := by decide +kernel
theorem dX7_touches_10 : decode cX7_touches 10 = .ok (.iload_n 1, 1) := by decide +kernel
theorem dX7_touches_11 : decode cX7_touches 11 = .ok (.iconst 1, 1) := by decide +kernel
theorem dX7_touches_12 : decode cX7_touches 12 = .ok (.isub, 1) := by decide +kernel
theorem dX7_touches_13 : decode cX7_touches 13 = .ok (.iload_n 2, 1) := by decide +kernel
theorem dX7_touches_14 : decode cX7_touches 14 = .ok (.invokestatic 236, 3) := by decide +kernel
theorem dX7_touches_17 : decode cX7_touches 17 = .ok (.iaload, 1) := by decide +kernel
theorem dX7_touches_18 : decode cX7_touches 18 = .ok (.iconst 1, 1) := by decide +kernel
theorem dX7_touches_19 : decode cX7_touches 19 = .ok (.if_icmp .eq 69, 3) := by decide +kernel
theorem dX7_touches_22 : decode cX7_touches 22 = .ok (.iload_n 1, 1) := by decide +kernel
theorem dX7_touches_23 : decode cX7_touches 23 = .ok (.bipush 30, 2) := by decide +kernel
theorem dX7_touches_25 : decode cX7_touches 25 = .ok (.if_icmp .ge 19, 3) := by decide +kernel
theorem dX7_touches_28 : decode cX7_touches 28 = .ok (.aload_n 0, 1) := by decide +kernel
theorem dX7_touches_29 : decode cX7_touches 29 = .ok (.getfield 59, 3) := by decide +kernel
theorem dX7_touches_32 : decode cX7_touches 32 = .ok (.iload_n 1, 1) := by decide +kernel
theorem dX7_touches_33 : decode cX7_touches 33 = .ok (.iconst 1, 1) := by decide +kernel
theorem dX7_touches_34 : decode cX7_touches 34 = .ok (.iadd, 1) := by decide +kernel
theorem dX7_touches_35 : decode cX7_touches 35 = .ok (.iload_n 2, 1) := by decide +kernel
theorem dX7_touches_36 : decode cX7_touches 36 = .ok (.invokestatic 236, 3) := by decide +kernel
theorem dX7_touches_39 : decode cX7_touches 39 = .ok (.iaload, 1) := by decide +kernel
theorem dX7_touches_40 : decode cX7_touches 40 = .ok (.iconst 1, 1) := by decide +kernel
theorem dX7_touches_41 : decode cX7_touches 41 = .ok (.if_icmp .eq 47, 3) := by decide +kernel
theorem dX7_touches_44 : decode cX7_touches 44 = .ok (.iload_n 2, 1) := by decide +kernel
theorem dX7_touches_45 : decode cX7_touches 45 = .ok (.bipush (-30), 2) := by decide +kernel
theorem dX7_touches_47 : decode cX7_touches 47 = .ok (.if_icmp .le 19, 3) := by decide +kernel
theorem dX7_touches_50 : decode cX7_touches 50 = .ok (.aload_n 0, 1) := by decide +kernel
theorem dX7_touches_51 : decode cX7_touches 51 = .ok (.getfield 59, 3) := by decide +kernel
theorem dX7_touches_54 : decode cX7_touches 54 = .ok (.iload_n 1, 1) := by decide +kernel
theorem dX7_touches_55 : decode cX7_touches 55 = .ok (.iload_n 2, 1) := by decide +kernel
theorem dX7_touches_56 : decode cX7_touches 56 = .ok (.iconst 1, 1) := by decide +kernel
theorem dX7_touches_57 : decode cX7_touches 57 = .ok (.isub, 1) := by decide +kernel
theorem dX7_touches_58 : decode cX7_touches 58 = .ok (.invokestatic 236, 3) := by decide +kernel
theorem dX7_touches_61 : decode cX7_touches 61 = .ok (.iaload, 1) := by decide +kernel
theorem dX7_touches_62 : decode cX7_touches 62 = .ok (.iconst 1, 1) := by decide +kernel
theorem dX7_touches_63 : decode cX7_touches 63 = .ok (.if_icmp .eq 25, 3) := by decide +kernel
theorem dX7_touches_66 : decode cX7_touches 66 = .ok (.iload_n 2, 1) := by decide +kernel
theorem dX7_touches_67 : decode cX7_touches 67 = .ok (.bipush 30, 2) := by decide +kernel
theorem dX7_touches_69 : decode cX7_touches 69 = .ok (.if_icmp .ge 23, 3) := by decide +kernel
theorem dX7_touches_72 : decode cX7_touches 72 = .ok (.aload_n 0, 1) := by decide +kernel
theorem dX7_touches_73 : decode cX7_touches 73 = .ok (.getfield 59, 3) := by decide +kernel
theorem dX7_touches_76 : decode cX7_touches 76 = .ok (.iload_n 1, 1) := by decide +kernel
theorem dX7_touches_77 : decode cX7_touches 77 = .ok (.iload_n 2, 1) := by decide +kernel
theorem dX7_touches_78 : decode cX7_touches 78 = .ok (.iconst 1, 1) := by decide +kernel
theorem dX7_touches_79 : decode cX7_touches 79 = .ok (.iadd, 1) := by decide +kernel
theorem dX7_touches_80 : decode cX7_touches 80 = .ok (.invokestatic 236, 3) := by decide +kernel
theorem dX7_touches_83 : decode cX7_touches 83 = .ok (.iaload, 1) := by decide +kernel
theorem dX7_touches_84 : decode cX7_touches 84 = .ok (.iconst 1, 1) := by decide +kernel
theorem dX7_touches_85 : decode cX7_touches 85 = .ok (.if_icmp .ne 7, 3) := by decide +kernel
theorem dX7_touches_88 : decode cX7_touches 88 = .ok (.iconst 1, 1) := by decide +kernel
theorem dX7_touches_89 : decode cX7_touches 89 = .ok (.goto 4, 3) := by decide +kernel
theorem dX7_touches_92 : decode cX7_touches 92 = .ok (.iconst 0, 1) := by decide +kernel
theorem dX7_touches_93 : decode cX7_touches 93 = .ok (.ireturn, 1) := by decide +kernel
set_option maxRecDepth 20000 in
theorem ggX7_burnOn_X7_square : GoodIn wsX7_burnOn wsX7_square := goodIn_r _ [5] (by decide +kernel) (by decide +kernel)
set_option maxRecDepth 20000 in
theorem gX7_burnOn_X7_square : GoodIn wsX7_burnOn (va_wsS RX7 236 yX7_square wsX7_square) := goodIn_app (goodIn_of _ (by decide +kernel)) ggX7_burnOn_X7_square
set_option maxRecDepth 20000 in
theorem ggX7_burnOn_X7_touches : GoodIn wsX7_burnOn wsX7_touches := goodIn_r _ [9, 1, 2, 3, 4, 5, 10, 11, 12, 13, 14, 15, 16, 17, 18, 19, 20, 21, 22, 23, 24, 25, 26, 27, 28, 29, 30, 31, 32, 33, 34, 35, 36, 37, 38, 39, 40, 41, 42, 43] (by decide +kernel) (by decide +kernel)
set_option maxRecDepth 20000 in
theorem gX7_burnOn_X7_touches : GoodIn wsX7_burnOn (wsV RX7 242 RX7 yX7_touches wsX7_touches) := goodIn_app (goodIn_of _ (by decide +kernel)) ggX7_burnOn_X7_touches
theorem dX7_burnOn_0 : decode cX7_burnOn 0 = .ok (.iconst 0, 1) := by decide +kernel
theorem dX7_burnOn_1 : decode cX7_burnOn 1 = .ok (.istore_n 1, 1) := by decide +kernel
theorem dX7_burnOn_2 : decode cX7_burnOn 2 = .ok (.bipush (-30), 2) := by decide +kernel
theorem dX7_burnOn_4 : decode cX7_burnOn 4 = .ok (.istore_n 2, 1) := by decide +kernel
theorem dX7_burnOn_5 : decode cX7_burnOn 5 = .ok (.iload_n 2, 1) := by decide +kernel
theorem dX7_burnOn_6 : decode cX7_burnOn 6 = .ok (.bipush 30, 2) := by decide +kernel
theorem dX7_burnOn_8 : decode cX7_burnOn 8 = .ok (.if_icmp .gt 59, 3) := by decide +kernel
theorem dX7_burnOn_11 : decode cX7_burnOn 11 = .ok (.bipush (-30), 2) := by decide +kernel
theorem dX7_burnOn_13 : decode cX7_burnOn 13 = .ok (.istore_n 3, 1) := by decide +kernel
theorem dX7_burnOn_14 : decode cX7_burnOn 14 = .ok (.iload_n 3, 1) := by decide +kernel
theorem dX7_burnOn_15 : decode cX7_burnOn 15 = .ok (.bipush 30, 2) := by decide +kernel
theorem dX7_burnOn_17 : decode cX7_burnOn 17 = .ok (.if_icmp .gt 44, 3) := by decide +kernel
theorem dX7_burnOn_20 : decode cX7_burnOn 20 = .ok (.aload_n 0, 1) := by decide +kernel
theorem dX7_burnOn_21 : decode cX7_burnOn 21 = .ok (.getfield 59, 3) := by decide +kernel
theorem dX7_burnOn_24 : decode cX7_burnOn 24 = .ok (.iload_n 3, 1) := by decide +kernel
theorem dX7_burnOn_25 : decode cX7_burnOn 25 = .ok (.iload_n 2, 1) := by decide +kernel
theorem dX7_burnOn_26 : decode cX7_burnOn 26 = .ok (.invokestatic 236, 3) := by decide +kernel
theorem dX7_burnOn_29 : decode cX7_burnOn 29 = .ok (.iaload, 1) := by decide +kernel
theorem dX7_burnOn_30 : decode cX7_burnOn 30 = .ok (.ifCond .ne 25, 3) := by decide +kernel
theorem dX7_burnOn_33 : decode cX7_burnOn 33 = .ok (.aload_n 0, 1) := by decide +kernel
theorem dX7_burnOn_34 : decode cX7_burnOn 34 = .ok (.iload_n 3, 1) := by decide +kernel
theorem dX7_burnOn_35 : decode cX7_burnOn 35 = .ok (.iload_n 2, 1) := by decide +kernel
theorem dX7_burnOn_36 : decode cX7_burnOn 36 = .ok (.invokevirtual 242, 3) := by decide +kernel
theorem dX7_burnOn_39 : decode cX7_burnOn 39 = .ok (.ifCond .eq 16, 3) := by decide +kernel
theorem dX7_burnOn_42 : decode cX7_burnOn 42 = .ok (.aload_n 0, 1) := by decide +kernel
theorem dX7_burnOn_43 : decode cX7_burnOn 43 = .ok (.getfield 59, 3) := by decide +kernel
theorem dX7_burnOn_46 : decode cX7_burnOn 46 = .ok (.iload_n 3, 1) := by decide +kernel
theorem dX7_burnOn_47 : decode cX7_burnOn 47 = .ok (.iload_n 2, 1) := by decide +kernel
theorem dX7_burnOn_48 : decode cX7_burnOn 48 = .ok (.invokestatic 236, 3) := by decide +kernel
theorem dX7_burnOn_51 : decode cX7_burnOn 51 = .ok (.iconst 3, 1) := by decide +kernel
theorem dX7_burnOn_52 : decode cX7_burnOn 52 = .ok (.iastore, 1) := by decide +kernel
theorem dX7_burnOn_53 : decode cX7_burnOn 53 = .ok (.iconst 1, 1) := by decide +kernel
theorem dX7_burnOn_54 : decode cX7_burnOn 54 = .ok (.istore_n 1, 1) := by decide +kernel
theorem dX7_burnOn_55 : decode cX7_burnOn 55 = .ok (.iinc 3 1, 3) := by decide +kernel
theorem dX7_burnOn_58 : decode cX7_burnOn 58 = .ok (.goto (-44), 3) := by decide +kernel
theorem dX7_burnOn_61 : decode cX7_burnOn 61 = .ok (.iinc 2 1, 3) := by decide +kernel
theorem dX7_burnOn_64 : decode cX7_burnOn 64 = .ok (.goto (-59), 3) := by decide +kernel
theorem dX7_burnOn_67 : decode cX7_burnOn 67 = .ok (.iconst 0, 1) := by decide +kernel
theorem dX7_burnOn_68 : decode cX7_burnOn 68 = .ok (.istore_n 2, 1) := by decide +kernel
theorem dX7_burnOn_69 : decode cX7_burnOn 69 = .ok (.iload_n 2, 1) := by decide +kernel
theorem dX7_burnOn_70 : decode cX7_burnOn 70 = .ok (.sipush 3721, 3) := by decide +kernel
theorem dX7_burnOn_73 : decode cX7_burnOn 73 = .ok (.if_icmp .ge 35, 3) := by decide +kernel
theorem dX7_burnOn_76 : decode cX7_burnOn 76 = .ok (.aload_n 0, 1) := by decide +kernel
theorem dX7_burnOn_77 : decode cX7_burnOn 77 = .ok (.getfield 59, 3) := by decide +kernel
theorem dX7_burnOn_80 : decode cX7_burnOn 80 = .ok (.iload_n 2, 1) := by decide +kernel
theorem dX7_burnOn_81 : decode cX7_burnOn 81 = .ok (.aload_n 0, 1) := by decide +kernel
theorem dX7_burnOn_82 : decode cX7_burnOn 82 = .ok (.getfield 59, 3) := by decide +kernel
theorem dX7_burnOn_85 : decode cX7_burnOn 85 = .ok (.iload_n 2, 1) := by decide +kernel
theorem dX7_burnOn_86 : decode cX7_burnOn 86 = .ok (.iaload, 1) := by decide +kernel
theorem dX7_burnOn_87 : decode cX7_burnOn 87 = .ok (.iconst 3, 1) := by decide +kernel
theorem dX7_burnOn_88 : decode cX7_burnOn 88 = .ok (.if_icmp .ne 7, 3) := by decide +kernel
theorem dX7_burnOn_91 : decode cX7_burnOn 91 = .ok (.iconst 1, 1) := by decide +kernel
theorem dX7_burnOn_92 : decode cX7_burnOn 92 = .ok (.goto 9, 3) := by decide +kernel
theorem dX7_burnOn_95 : decode cX7_burnOn 95 = .ok (.aload_n 0, 1) := by decide +kernel
theorem dX7_burnOn_96 : decode cX7_burnOn 96 = .ok (.getfield 59, 3) := by decide +kernel
theorem dX7_burnOn_99 : decode cX7_burnOn 99 = .ok (.iload_n 2, 1) := by decide +kernel
theorem dX7_burnOn_100 : decode cX7_burnOn 100 = .ok (.iaload, 1) := by decide +kernel
theorem dX7_burnOn_101 : decode cX7_burnOn 101 = .ok (.iastore, 1) := by decide +kernel
theorem dX7_burnOn_102 : decode cX7_burnOn 102 = .ok (.iinc 2 1, 3) := by decide +kernel
theorem dX7_burnOn_105 : decode cX7_burnOn 105 = .ok (.goto (-36), 3) := by decide +kernel
theorem dX7_burnOn_108 : decode cX7_burnOn 108 = .ok (.iload_n 1, 1) := by decide +kernel
theorem dX7_burnOn_109 : decode cX7_burnOn 109 = .ok (.ireturn, 1) := by decide +kernel
set_option maxRecDepth 20000 in
theorem ggX7_run_X7_square : GoodIn wsX7_run wsX7_square := goodIn_r _ [7] (by decide +kernel) (by decide +kernel)
set_option maxRecDepth 20000 in
theorem gX7_run_X7_square : GoodIn wsX7_run (va_wsS RX7 236 yX7_square wsX7_square) := goodIn_app (goodIn_of _ (by decide +kernel)) ggX7_run_X7_square
set_option maxRecDepth 20000 in
theorem ggX7_run_X7_build : GoodIn wsX7_run wsX7_build := goodIn_r _ [11, 12, 13, 2, 1, 4, 5, 6, 7, 22, 23, 24, 25, 26, 27, 28, 29, 30, 31, 32, 33, 34, 35, 36, 37, 38, 39, 40, 41, 42, 43, 44, 45, 46, 47, 48, 49, 50, 51, 52, 53, 54, 55] (by decide +kernel) (by decide +kernel)
set_option maxRecDepth 20000 in
theorem gX7_run_X7_build : GoodIn wsX7_run (wsV RX7 249 RX7 yX7_build wsX7_build) := goodIn_app (goodIn_of _ (by decide +kernel)) ggX7_run_X7_build
set_option maxRecDepth 20000 in
theorem ggX7_run_X7_burnOn : GoodIn wsX7_run wsX7_burnOn := goodIn_r _ [17, 1, 4, 5, 6, 7, 18, 19, 20, 21, 22, 23, 24, 25, 26, 27, 28, 29, 30, 31, 32, 33, 34, 35, 36, 37, 38, 39, 40, 41, 42, 43, 44, 45, 46, 47, 48, 49, 50, 51, 52, 53, 54, 55] (by decide +kernel) (by decide +kernel)
set_option maxRecDepth 20000 in
theorem gX7_run_X7_burnOn : GoodIn wsX7_run (wsV RX7 252 RX7 yX7_burnOn wsX7_burnOn) := goodIn_app (goodIn_of _ (by decide +kernel)) ggX7_run_X7_burnOn
theorem dX7_run_0 : decode cX7_run 0 = .ok (.iconst 0, 1) := by decide +kernel
theorem dX7_run_1 : decode cX7_run 1 = .ok (.istore_n 1, 1) := by decide +kernel
theorem dX7_run_2 : decode cX7_run 2 = .ok (.iload_n 1, 1) := by decide +kernel
theorem dX7_run_3 : decode cX7_run 3 = .ok (.sipush 3721, 3) := by decide +kernel
theorem dX7_run_6 : decode cX7_run 6 = .ok (.if_icmp .ge 16, 3) := by decide +kernel
theorem dX7_run_9 : decode cX7_run 9 = .ok (.aload_n 0, 1) := by decide +kernel
theorem dX7_run_10 : decode cX7_run 10 = .ok (.getfield 59, 3) := by decide +kernel
theorem dX7_run_13 : decode cX7_run 13 = .ok (.iload_n 1, 1) := by decide +kernel
theorem dX7_run_14 : decode cX7_run 14 = .ok (.iconst 0, 1) := by decide +kernel
theorem dX7_run_15 : decode cX7_run 15 = .ok (.iastore, 1) := by decide +kernel
theorem dX7_run_16 : decode cX7_run 16 = .ok (.iinc 1 1, 3) := by decide +kernel
theorem dX7_run_19 : decode cX7_run 19 = .ok (.goto (-17), 3) := by decide +kernel
theorem dX7_run_22 : decode cX7_run 22 = .ok (.aload_n 0, 1) := by decide +kernel
theorem dX7_run_23 : decode cX7_run 23 = .ok (.getfield 59, 3) := by decide +kernel
theorem dX7_run_26 : decode cX7_run 26 = .ok (.iconst 0, 1) := by decide +kernel
theorem dX7_run_27 : decode cX7_run 27 = .ok (.iconst 0, 1) := by decide +kernel
theorem dX7_run_28 : decode cX7_run 28 = .ok (.invokestatic 236, 3) := by decide +kernel
theorem dX7_run_31 : decode cX7_run 31 = .ok (.iconst 1, 1) := by decide +kernel
theorem dX7_run_32 : decode cX7_run 32 = .ok (.iastore, 1) := by decide +kernel
theorem dX7_run_33 : decode cX7_run 33 = .ok (.aload_n 0, 1) := by decide +kernel
theorem dX7_run_34 : decode cX7_run 34 = .ok (.iconst 0, 1) := by decide +kernel
theorem dX7_run_35 : decode cX7_run 35 = .ok (.putfield 239, 3) := by decide +kernel
theorem dX7_run_38 : decode cX7_run 38 = .ok (.aload_n 0, 1) := by decide +kernel
theorem dX7_run_39 : decode cX7_run 39 = .ok (.iconst (-1), 1) := by decide +kernel
theorem dX7_run_40 : decode cX7_run 40 = .ok (.putfield 246, 3) := by decide +kernel
theorem dX7_run_43 : decode cX7_run 43 = .ok (.iconst 1, 1) := by decide +kernel
theorem dX7_run_44 : decode cX7_run 44 = .ok (.istore_n 1, 1) := by decide +kernel
theorem dX7_run_45 : decode cX7_run 45 = .ok (.iload_n 1, 1) := by decide +kernel
theorem dX7_run_46 : decode cX7_run 46 = .ok (.bipush 24, 2) := by decide +kernel
theorem dX7_run_48 : decode cX7_run 48 = .ok (.if_icmp .gt 37, 3) := by decide +kernel
theorem dX7_run_51 : decode cX7_run 51 = .ok (.aload_n 0, 1) := by decide +kernel
theorem dX7_run_52 : decode cX7_run 52 = .ok (.getfield 246, 3) := by decide +kernel
theorem dX7_run_55 : decode cX7_run 55 = .ok (.ifCond .ge 30, 3) := by decide +kernel
theorem dX7_run_58 : decode cX7_run 58 = .ok (.aload_n 0, 1) := by decide +kernel
theorem dX7_run_59 : decode cX7_run 59 = .ok (.iload_n 1, 1) := by decide +kernel
theorem dX7_run_60 : decode cX7_run 60 = .ok (.invokevirtual 249, 3) := by decide +kernel
theorem dX7_run_63 : decode cX7_run 63 = .ok (.aload_n 0, 1) := by decide +kernel
theorem dX7_run_64 : decode cX7_run 64 = .ok (.aload_n 0, 1) := by decide +kernel
theorem dX7_run_65 : decode cX7_run 65 = .ok (.invokevirtual 252, 3) := by decide +kernel
theorem dX7_run_68 : decode cX7_run 68 = .ok (.ifCond .eq 7, 3) := by decide +kernel
theorem dX7_run_71 : decode cX7_run 71 = .ok (.iconst (-1), 1) := by decide +kernel
theorem dX7_run_72 : decode cX7_run 72 = .ok (.goto 4, 3) := by decide +kernel
theorem dX7_run_75 : decode cX7_run 75 = .ok (.iload_n 1, 1) := by decide +kernel
theorem dX7_run_76 : decode cX7_run 76 = .ok (.putfield 246, 3) := by decide +kernel
theorem dX7_run_79 : decode cX7_run 79 = .ok (.iinc 1 1, 3) := by decide +kernel
theorem dX7_run_82 : decode cX7_run 82 = .ok (.goto (-37), 3) := by decide +kernel
theorem dX7_run_85 : decode cX7_run 85 = .ok (.return_, 1) := by decide +kernel
theorem dX7_size_0 : decode cX7_size 0 = .ok (.iload_n 0, 1) := by decide +kernel
theorem dX7_size_1 : decode cX7_size 1 = .ok (.ifCond .ge 8, 3) := by decide +kernel
theorem dX7_size_4 : decode cX7_size 4 = .ok (.iload_n 0, 1) := by decide +kernel
theorem dX7_size_5 : decode cX7_size 5 = .ok (.ineg, 1) := by decide +kernel
theorem dX7_size_6 : decode cX7_size 6 = .ok (.goto 4, 3) := by decide +kernel
theorem dX7_size_9 : decode cX7_size 9 = .ok (.iload_n 0, 1) := by decide +kernel
theorem dX7_size_10 : decode cX7_size 10 = .ok (.ireturn, 1) := by decide +kernel
set_option maxRecDepth 20000 in
theorem ggX7_board_X7_in : GoodIn wsX7_board wsX7_in := goodIn_r _ [8] (by decide +kernel) (by decide +kernel)
set_option maxRecDepth 20000 in
theorem gX7_board_X7_in : GoodIn wsX7_board (va_wsS RX7 68 yX7_in wsX7_in) := goodIn_app (goodIn_of _ (by decide +kernel)) ggX7_board_X7_in
set_option maxRecDepth 20000 in
theorem ggX7_board_X7_run : GoodIn wsX7_board wsX7_run := goodIn_r _ [12, 2, 4, 3, 13, 14, 7, 15, 16, 17, 18, 19, 20, 21, 22, 23, 24, 25, 26, 27, 28, 29, 33, 34, 35, 36, 37, 38, 39, 40, 41, 42, 43, 44, 45, 46, 47, 48, 49, 50, 51, 52, 53, 54, 55, 56, 57, 58, 59, 60, 61, 62, 63, 64, 65, 66] (by decide +kernel) (by decide +kernel)
set_option maxRecDepth 20000 in
theorem gX7_board_X7_run : GoodIn wsX7_board (wsV RX7 257 RX7 yX7_run wsX7_run) := goodIn_app (goodIn_of _ (by decide +kernel)) ggX7_board_X7_run
set_option maxRecDepth 20000 in
theorem ggX7_board_X7_square : GoodIn wsX7_board wsX7_square := goodIn_r _ [15] (by decide +kernel) (by decide +kernel)
set_option maxRecDepth 20000 in
theorem gX7_board_X7_square : GoodIn wsX7_board (va_wsS RX7 236 yX7_square wsX7_square) := goodIn_app (goodIn_of _ (by decide +kernel)) ggX7_board_X7_square
set_option maxRecDepth 20000 in
theorem ggX7_board_X7_size : GoodIn wsX7_board wsX7_size := goodIn_r _ [32] (by decide +kernel) (by decide +kernel)
set_option maxRecDepth 20000 in
theorem gX7_board_X7_size : GoodIn wsX7_board (va_wsS RX7 260 yX7_size wsX7_size) := goodIn_app (goodIn_of _ (by decide +kernel)) ggX7_board_X7_size
theorem dX7_board_0 : decode cX7_board 0 = .ok (.iload_n 1, 1) := by decide +kernel
theorem dX7_board_1 : decode cX7_board 1 = .ok (.i2l, 1) := by decide +kernel
theorem dX7_board_2 : decode cX7_board 2 = .ok (.lconst 0, 1) := by decide +kernel
theorem dX7_board_3 : decode cX7_board 3 = .ok (.ldc2_w 255, 3) := by decide +kernel
theorem dX7_board_6 : decode cX7_board 6 = .ok (.invokestatic 68, 3) := by decide +kernel
theorem dX7_board_9 : decode cX7_board 9 = .ok (.ifCond .ne 7, 3) := by decide +kernel
theorem dX7_board_12 : decode cX7_board 12 = .ok (.sipush (-1002), 3) := by decide +kernel
theorem dX7_board_15 : decode cX7_board 15 = .ok (.ireturn, 1) := by decide +kernel
theorem dX7_board_16 : decode cX7_board 16 = .ok (.aload_n 0, 1) := by decide +kernel
theorem dX7_board_17 : decode cX7_board 17 = .ok (.invokevirtual 257, 3) := by decide +kernel
theorem dX7_board_20 : decode cX7_board 20 = .ok (.iconst 0, 1) := by decide +kernel
theorem dX7_board_21 : decode cX7_board 21 = .ok (.istore_n 2, 1) := by decide +kernel
theorem dX7_board_22 : decode cX7_board 22 = .ok (.iconst 0, 1) := by decide +kernel
theorem dX7_board_23 : decode cX7_board 23 = .ok (.istore_n 3, 1) := by decide +kernel
theorem dX7_board_24 : decode cX7_board 24 = .ok (.bipush (-30), 2) := by decide +kernel
theorem dX7_board_26 : decode cX7_board 26 = .ok (.istore 4, 2) := by decide +kernel
theorem dX7_board_28 : decode cX7_board 28 = .ok (.iload 4, 2) := by decide +kernel
theorem dX7_board_30 : decode cX7_board 30 = .ok (.bipush 30, 2) := by decide +kernel
theorem dX7_board_32 : decode cX7_board 32 = .ok (.if_icmp .gt 98, 3) := by decide +kernel
theorem dX7_board_35 : decode cX7_board 35 = .ok (.bipush (-30), 2) := by decide +kernel
theorem dX7_board_37 : decode cX7_board 37 = .ok (.istore 5, 2) := by decide +kernel
theorem dX7_board_39 : decode cX7_board 39 = .ok (.iload 5, 2) := by decide +kernel
theorem dX7_board_41 : decode cX7_board 41 = .ok (.bipush 30, 2) := by decide +kernel
theorem dX7_board_43 : decode cX7_board 43 = .ok (.if_icmp .gt 81, 3) := by decide +kernel
theorem dX7_board_46 : decode cX7_board 46 = .ok (.aload_n 0, 1) := by decide +kernel
theorem dX7_board_47 : decode cX7_board 47 = .ok (.getfield 59, 3) := by decide +kernel
theorem dX7_board_50 : decode cX7_board 50 = .ok (.iload 5, 2) := by decide +kernel
theorem dX7_board_52 : decode cX7_board 52 = .ok (.iload 4, 2) := by decide +kernel
theorem dX7_board_54 : decode cX7_board 54 = .ok (.invokestatic 236, 3) := by decide +kernel
theorem dX7_board_57 : decode cX7_board 57 = .ok (.iaload, 1) := by decide +kernel
theorem dX7_board_58 : decode cX7_board 58 = .ok (.iconst 1, 1) := by decide +kernel
theorem dX7_board_59 : decode cX7_board 59 = .ok (.if_icmp .ne 7, 3) := by decide +kernel
theorem dX7_board_62 : decode cX7_board 62 = .ok (.iconst 1, 1) := by decide +kernel
theorem dX7_board_63 : decode cX7_board 63 = .ok (.goto 4, 3) := by decide +kernel
theorem dX7_board_66 : decode cX7_board 66 = .ok (.iconst 0, 1) := by decide +kernel
theorem dX7_board_67 : decode cX7_board 67 = .ok (.istore 6, 2) := by decide +kernel
theorem dX7_board_69 : decode cX7_board 69 = .ok (.iload_n 2, 1) := by decide +kernel
theorem dX7_board_70 : decode cX7_board 70 = .ok (.iload 6, 2) := by decide +kernel
theorem dX7_board_72 : decode cX7_board 72 = .ok (.ifCond .eq 7, 3) := by decide +kernel
theorem dX7_board_75 : decode cX7_board 75 = .ok (.iconst 1, 1) := by decide +kernel
theorem dX7_board_76 : decode cX7_board 76 = .ok (.goto 4, 3) := by decide +kernel
theorem dX7_board_79 : decode cX7_board 79 = .ok (.iconst 0, 1) := by decide +kernel
theorem dX7_board_80 : decode cX7_board 80 = .ok (.iadd, 1) := by decide +kernel
theorem dX7_board_81 : decode cX7_board 81 = .ok (.istore_n 2, 1) := by decide +kernel
theorem dX7_board_82 : decode cX7_board 82 = .ok (.iload 6, 2) := by decide +kernel
theorem dX7_board_84 : decode cX7_board 84 = .ok (.ifCond .eq 32, 3) := by decide +kernel
theorem dX7_board_87 : decode cX7_board 87 = .ok (.iload 5, 2) := by decide +kernel
theorem dX7_board_89 : decode cX7_board 89 = .ok (.invokestatic 260, 3) := by decide +kernel
theorem dX7_board_92 : decode cX7_board 92 = .ok (.iload 4, 2) := by decide +kernel
theorem dX7_board_94 : decode cX7_board 94 = .ok (.invokestatic 260, 3) := by decide +kernel
theorem dX7_board_97 : decode cX7_board 97 = .ok (.iadd, 1) := by decide +kernel
theorem dX7_board_98 : decode cX7_board 98 = .ok (.iload_n 3, 1) := by decide +kernel
theorem dX7_board_99 : decode cX7_board 99 = .ok (.if_icmp .le 17, 3) := by decide +kernel
theorem dX7_board_102 : decode cX7_board 102 = .ok (.iload 5, 2) := by decide +kernel
theorem dX7_board_104 : decode cX7_board 104 = .ok (.invokestatic 260, 3) := by decide +kernel
theorem dX7_board_107 : decode cX7_board 107 = .ok (.iload 4, 2) := by decide +kernel
theorem dX7_board_109 : decode cX7_board 109 = .ok (.invokestatic 260, 3) := by decide +kernel
theorem dX7_board_112 : decode cX7_board 112 = .ok (.iadd, 1) := by decide +kernel
theorem dX7_board_113 : decode cX7_board 113 = .ok (.goto 4, 3) := by decide +kernel
theorem dX7_board_116 : decode cX7_board 116 = .ok (.iload_n 3, 1) := by decide +kernel
theorem dX7_board_117 : decode cX7_board 117 = .ok (.istore_n 3, 1) := by decide +kernel
theorem dX7_board_118 : decode cX7_board 118 = .ok (.iinc 5 1, 3) := by decide +kernel
theorem dX7_board_121 : decode cX7_board 121 = .ok (.goto (-82), 3) := by decide +kernel
theorem dX7_board_124 : decode cX7_board 124 = .ok (.iinc 4 1, 3) := by decide +kernel
theorem dX7_board_127 : decode cX7_board 127 = .ok (.goto (-99), 3) := by decide +kernel
theorem dX7_board_130 : decode cX7_board 130 = .ok (.iload_n 1, 1) := by decide +kernel
theorem dX7_board_131 : decode cX7_board 131 = .ok (.ifCond .ne 10, 3) := by decide +kernel
theorem dX7_board_134 : decode cX7_board 134 = .ok (.aload_n 0, 1) := by decide +kernel
theorem dX7_board_135 : decode cX7_board 135 = .ok (.getfield 246, 3) := by decide +kernel
theorem dX7_board_138 : decode cX7_board 138 = .ok (.goto 25, 3) := by decide +kernel
theorem dX7_board_141 : decode cX7_board 141 = .ok (.iload_n 1, 1) := by decide +kernel
theorem dX7_board_142 : decode cX7_board 142 = .ok (.iconst 1, 1) := by decide +kernel
theorem dX7_board_143 : decode cX7_board 143 = .ok (.if_icmp .ne 7, 3) := by decide +kernel
theorem dX7_board_146 : decode cX7_board 146 = .ok (.iload_n 2, 1) := by decide +kernel
theorem dX7_board_147 : decode cX7_board 147 = .ok (.goto 16, 3) := by decide +kernel
theorem dX7_board_150 : decode cX7_board 150 = .ok (.iload_n 1, 1) := by decide +kernel
theorem dX7_board_151 : decode cX7_board 151 = .ok (.iconst 2, 1) := by decide +kernel
theorem dX7_board_152 : decode cX7_board 152 = .ok (.if_icmp .ne 10, 3) := by decide +kernel
theorem dX7_board_155 : decode cX7_board 155 = .ok (.aload_n 0, 1) := by decide +kernel
theorem dX7_board_156 : decode cX7_board 156 = .ok (.getfield 239, 3) := by decide +kernel
theorem dX7_board_159 : decode cX7_board 159 = .ok (.goto 4, 3) := by decide +kernel
theorem dX7_board_162 : decode cX7_board 162 = .ok (.iload_n 3, 1) := by decide +kernel
theorem dX7_board_163 : decode cX7_board 163 = .ok (.ireturn, 1) := by decide +kernel
theorem dJ6_bitCount_0f7a4_0 : decode cJ6_bitCount_0f7a4 0 = .ok (.iload_n 0, 1) := by decide +kernel
theorem dJ6_bitCount_0f7a4_1 : decode cJ6_bitCount_0f7a4 1 = .ok (.iload_n 0, 1) := by decide +kernel
theorem dJ6_bitCount_0f7a4_2 : decode cJ6_bitCount_0f7a4 2 = .ok (.iconst 1, 1) := by decide +kernel
theorem dJ6_bitCount_0f7a4_3 : decode cJ6_bitCount_0f7a4 3 = .ok (.iushr, 1) := by decide +kernel
theorem dJ6_bitCount_0f7a4_4 : decode cJ6_bitCount_0f7a4 4 = .ok (.ldc_w 265, 3) := by decide +kernel
theorem dJ6_bitCount_0f7a4_7 : decode cJ6_bitCount_0f7a4 7 = .ok (.iand, 1) := by decide +kernel
theorem dJ6_bitCount_0f7a4_8 : decode cJ6_bitCount_0f7a4 8 = .ok (.isub, 1) := by decide +kernel
theorem dJ6_bitCount_0f7a4_9 : decode cJ6_bitCount_0f7a4 9 = .ok (.istore_n 0, 1) := by decide +kernel
theorem dJ6_bitCount_0f7a4_10 : decode cJ6_bitCount_0f7a4 10 = .ok (.iload_n 0, 1) := by decide +kernel
theorem dJ6_bitCount_0f7a4_11 : decode cJ6_bitCount_0f7a4 11 = .ok (.ldc_w 266, 3) := by decide +kernel
theorem dJ6_bitCount_0f7a4_14 : decode cJ6_bitCount_0f7a4 14 = .ok (.iand, 1) := by decide +kernel
theorem dJ6_bitCount_0f7a4_15 : decode cJ6_bitCount_0f7a4 15 = .ok (.iload_n 0, 1) := by decide +kernel
theorem dJ6_bitCount_0f7a4_16 : decode cJ6_bitCount_0f7a4 16 = .ok (.iconst 2, 1) := by decide +kernel
theorem dJ6_bitCount_0f7a4_17 : decode cJ6_bitCount_0f7a4 17 = .ok (.iushr, 1) := by decide +kernel
theorem dJ6_bitCount_0f7a4_18 : decode cJ6_bitCount_0f7a4 18 = .ok (.ldc_w 266, 3) := by decide +kernel
theorem dJ6_bitCount_0f7a4_21 : decode cJ6_bitCount_0f7a4 21 = .ok (.iand, 1) := by decide +kernel
theorem dJ6_bitCount_0f7a4_22 : decode cJ6_bitCount_0f7a4 22 = .ok (.iadd, 1) := by decide +kernel
theorem dJ6_bitCount_0f7a4_23 : decode cJ6_bitCount_0f7a4 23 = .ok (.istore_n 0, 1) := by decide +kernel
theorem dJ6_bitCount_0f7a4_24 : decode cJ6_bitCount_0f7a4 24 = .ok (.iload_n 0, 1) := by decide +kernel
theorem dJ6_bitCount_0f7a4_25 : decode cJ6_bitCount_0f7a4 25 = .ok (.iload_n 0, 1) := by decide +kernel
theorem dJ6_bitCount_0f7a4_26 : decode cJ6_bitCount_0f7a4 26 = .ok (.iconst 4, 1) := by decide +kernel
theorem dJ6_bitCount_0f7a4_27 : decode cJ6_bitCount_0f7a4 27 = .ok (.iushr, 1) := by decide +kernel
theorem dJ6_bitCount_0f7a4_28 : decode cJ6_bitCount_0f7a4 28 = .ok (.iadd, 1) := by decide +kernel
theorem dJ6_bitCount_0f7a4_29 : decode cJ6_bitCount_0f7a4 29 = .ok (.ldc_w 267, 3) := by decide +kernel
theorem dJ6_bitCount_0f7a4_32 : decode cJ6_bitCount_0f7a4 32 = .ok (.iand, 1) := by decide +kernel
theorem dJ6_bitCount_0f7a4_33 : decode cJ6_bitCount_0f7a4 33 = .ok (.istore_n 0, 1) := by decide +kernel
theorem dJ6_bitCount_0f7a4_34 : decode cJ6_bitCount_0f7a4 34 = .ok (.iload_n 0, 1) := by decide +kernel
theorem dJ6_bitCount_0f7a4_35 : decode cJ6_bitCount_0f7a4 35 = .ok (.iload_n 0, 1) := by decide +kernel
theorem dJ6_bitCount_0f7a4_36 : decode cJ6_bitCount_0f7a4 36 = .ok (.bipush 8, 2) := by decide +kernel
theorem dJ6_bitCount_0f7a4_38 : decode cJ6_bitCount_0f7a4 38 = .ok (.iushr, 1) := by decide +kernel
theorem dJ6_bitCount_0f7a4_39 : decode cJ6_bitCount_0f7a4 39 = .ok (.iadd, 1) := by decide +kernel
theorem dJ6_bitCount_0f7a4_40 : decode cJ6_bitCount_0f7a4 40 = .ok (.istore_n 0, 1) := by decide +kernel
theorem dJ6_bitCount_0f7a4_41 : decode cJ6_bitCount_0f7a4 41 = .ok (.iload_n 0, 1) := by decide +kernel
theorem dJ6_bitCount_0f7a4_42 : decode cJ6_bitCount_0f7a4 42 = .ok (.iload_n 0, 1) := by decide +kernel
theorem dJ6_bitCount_0f7a4_43 : decode cJ6_bitCount_0f7a4 43 = .ok (.bipush 16, 2) := by decide +kernel
theorem dJ6_bitCount_0f7a4_45 : decode cJ6_bitCount_0f7a4 45 = .ok (.iushr, 1) := by decide +kernel
theorem dJ6_bitCount_0f7a4_46 : decode cJ6_bitCount_0f7a4 46 = .ok (.iadd, 1) := by decide +kernel
theorem dJ6_bitCount_0f7a4_47 : decode cJ6_bitCount_0f7a4 47 = .ok (.istore_n 0, 1) := by decide +kernel
theorem dJ6_bitCount_0f7a4_48 : decode cJ6_bitCount_0f7a4 48 = .ok (.iload_n 0, 1) := by decide +kernel
theorem dJ6_bitCount_0f7a4_49 : decode cJ6_bitCount_0f7a4 49 = .ok (.bipush 63, 2) := by decide +kernel
theorem dJ6_bitCount_0f7a4_51 : decode cJ6_bitCount_0f7a4 51 = .ok (.iand, 1) := by decide +kernel
theorem dJ6_bitCount_0f7a4_52 : decode cJ6_bitCount_0f7a4 52 = .ok (.ireturn, 1) := by decide +kernel
theorem dJ13_bitCount_95d88_0 : decode cJ13_bitCount_95d88 0 = .ok (.lload_n 0, 1) := by decide +kernel
theorem dJ13_bitCount_95d88_1 : decode cJ13_bitCount_95d88 1 = .ok (.lload_n 0, 1) := by decide +kernel
theorem dJ13_bitCount_95d88_2 : decode cJ13_bitCount_95d88 2 = .ok (.iconst 1, 1) := by decide +kernel
theorem dJ13_bitCount_95d88_3 : decode cJ13_bitCount_95d88 3 = .ok (.lushr, 1) := by decide +kernel
theorem dJ13_bitCount_95d88_4 : decode cJ13_bitCount_95d88 4 = .ok (.ldc2_w 314, 3) := by decide +kernel
theorem dJ13_bitCount_95d88_7 : decode cJ13_bitCount_95d88 7 = .ok (.land, 1) := by decide +kernel
theorem dJ13_bitCount_95d88_8 : decode cJ13_bitCount_95d88 8 = .ok (.lsub, 1) := by decide +kernel
theorem dJ13_bitCount_95d88_9 : decode cJ13_bitCount_95d88 9 = .ok (.lstore_n 0, 1) := by decide +kernel
theorem dJ13_bitCount_95d88_10 : decode cJ13_bitCount_95d88 10 = .ok (.lload_n 0, 1) := by decide +kernel
theorem dJ13_bitCount_95d88_11 : decode cJ13_bitCount_95d88 11 = .ok (.ldc2_w 316, 3) := by decide +kernel
theorem dJ13_bitCount_95d88_14 : decode cJ13_bitCount_95d88 14 = .ok (.land, 1) := by decide +kernel
theorem dJ13_bitCount_95d88_15 : decode cJ13_bitCount_95d88 15 = .ok (.lload_n 0, 1) := by decide +kernel
theorem dJ13_bitCount_95d88_16 : decode cJ13_bitCount_95d88 16 = .ok (.iconst 2, 1) := by decide +kernel
theorem dJ13_bitCount_95d88_17 : decode cJ13_bitCount_95d88 17 = .ok (.lushr, 1) := by decide +kernel
theorem dJ13_bitCount_95d88_18 : decode cJ13_bitCount_95d88 18 = .ok (.ldc2_w 316, 3) := by decide +kernel
theorem dJ13_bitCount_95d88_21 : decode cJ13_bitCount_95d88 21 = .ok (.land, 1) := by decide +kernel
theorem dJ13_bitCount_95d88_22 : decode cJ13_bitCount_95d88 22 = .ok (.ladd, 1) := by decide +kernel
theorem dJ13_bitCount_95d88_23 : decode cJ13_bitCount_95d88 23 = .ok (.lstore_n 0, 1) := by decide +kernel
theorem dJ13_bitCount_95d88_24 : decode cJ13_bitCount_95d88 24 = .ok (.lload_n 0, 1) := by decide +kernel
theorem dJ13_bitCount_95d88_25 : decode cJ13_bitCount_95d88 25 = .ok (.lload_n 0, 1) := by decide +kernel
theorem dJ13_bitCount_95d88_26 : decode cJ13_bitCount_95d88 26 = .ok (.iconst 4, 1) := by decide +kernel
theorem dJ13_bitCount_95d88_27 : decode cJ13_bitCount_95d88 27 = .ok (.lushr, 1) := by decide +kernel
theorem dJ13_bitCount_95d88_28 : decode cJ13_bitCount_95d88 28 = .ok (.ladd, 1) := by decide +kernel
theorem dJ13_bitCount_95d88_29 : decode cJ13_bitCount_95d88 29 = .ok (.ldc2_w 318, 3) := by decide +kernel
theorem dJ13_bitCount_95d88_32 : decode cJ13_bitCount_95d88 32 = .ok (.land, 1) := by decide +kernel
theorem dJ13_bitCount_95d88_33 : decode cJ13_bitCount_95d88 33 = .ok (.lstore_n 0, 1) := by decide +kernel
theorem dJ13_bitCount_95d88_34 : decode cJ13_bitCount_95d88 34 = .ok (.lload_n 0, 1) := by decide +kernel
theorem dJ13_bitCount_95d88_35 : decode cJ13_bitCount_95d88 35 = .ok (.lload_n 0, 1) := by decide +kernel
theorem dJ13_bitCount_95d88_36 : decode cJ13_bitCount_95d88 36 = .ok (.bipush 8, 2) := by decide +kernel
theorem dJ13_bitCount_95d88_38 : decode cJ13_bitCount_95d88 38 = .ok (.lushr, 1) := by decide +kernel
theorem dJ13_bitCount_95d88_39 : decode cJ13_bitCount_95d88 39 = .ok (.ladd, 1) := by decide +kernel
theorem dJ13_bitCount_95d88_40 : decode cJ13_bitCount_95d88 40 = .ok (.lstore_n 0, 1) := by decide +kernel
theorem dJ13_bitCount_95d88_41 : decode cJ13_bitCount_95d88 41 = .ok (.lload_n 0, 1) := by decide +kernel
theorem dJ13_bitCount_95d88_42 : decode cJ13_bitCount_95d88 42 = .ok (.lload_n 0, 1) := by decide +kernel
theorem dJ13_bitCount_95d88_43 : decode cJ13_bitCount_95d88 43 = .ok (.bipush 16, 2) := by decide +kernel
theorem dJ13_bitCount_95d88_45 : decode cJ13_bitCount_95d88 45 = .ok (.lushr, 1) := by decide +kernel
theorem dJ13_bitCount_95d88_46 : decode cJ13_bitCount_95d88 46 = .ok (.ladd, 1) := by decide +kernel
theorem dJ13_bitCount_95d88_47 : decode cJ13_bitCount_95d88 47 = .ok (.lstore_n 0, 1) := by decide +kernel
theorem dJ13_bitCount_95d88_48 : decode cJ13_bitCount_95d88 48 = .ok (.lload_n 0, 1) := by decide +kernel
theorem dJ13_bitCount_95d88_49 : decode cJ13_bitCount_95d88 49 = .ok (.lload_n 0, 1) := by decide +kernel
theorem dJ13_bitCount_95d88_50 : decode cJ13_bitCount_95d88 50 = .ok (.bipush 32, 2) := by decide +kernel
theorem dJ13_bitCount_95d88_52 : decode cJ13_bitCount_95d88 52 = .ok (.lushr, 1) := by decide +kernel
theorem dJ13_bitCount_95d88_53 : decode cJ13_bitCount_95d88 53 = .ok (.ladd, 1) := by decide +kernel
theorem dJ13_bitCount_95d88_54 : decode cJ13_bitCount_95d88 54 = .ok (.lstore_n 0, 1) := by decide +kernel
theorem dJ13_bitCount_95d88_55 : decode cJ13_bitCount_95d88 55 = .ok (.lload_n 0, 1) := by decide +kernel
theorem dJ13_bitCount_95d88_56 : decode cJ13_bitCount_95d88 56 = .ok (.l2i, 1) := by decide +kernel
theorem dJ13_bitCount_95d88_57 : decode cJ13_bitCount_95d88 57 = .ok (.bipush 127, 2) := by decide +kernel
theorem dJ13_bitCount_95d88_59 : decode cJ13_bitCount_95d88 59 = .ok (.iand, 1) := by decide +kernel
theorem dJ13_bitCount_95d88_60 : decode cJ13_bitCount_95d88 60 = .ok (.ireturn, 1) := by decide +kernel
theorem dJ9_abs_0f7a4_0 : decode cJ9_abs_0f7a4 0 = .ok (.iload_n 0, 1) := by decide +kernel
theorem dJ9_abs_0f7a4_1 : decode cJ9_abs_0f7a4 1 = .ok (.ifCond .ge 8, 3) := by decide +kernel
theorem dJ9_abs_0f7a4_4 : decode cJ9_abs_0f7a4 4 = .ok (.iload_n 0, 1) := by decide +kernel
theorem dJ9_abs_0f7a4_5 : decode cJ9_abs_0f7a4 5 = .ok (.ineg, 1) := by decide +kernel
theorem dJ9_abs_0f7a4_6 : decode cJ9_abs_0f7a4 6 = .ok (.goto 4, 3) := by decide +kernel
theorem dJ9_abs_0f7a4_9 : decode cJ9_abs_0f7a4 9 = .ok (.iload_n 0, 1) := by decide +kernel
theorem dJ9_abs_0f7a4_10 : decode cJ9_abs_0f7a4 10 = .ok (.ireturn, 1) := by decide +kernel
theorem dJ9_max_7cf53_0 : decode cJ9_max_7cf53 0 = .ok (.iload_n 0, 1) := by decide +kernel
theorem dJ9_max_7cf53_1 : decode cJ9_max_7cf53 1 = .ok (.iload_n 1, 1) := by decide +kernel
theorem dJ9_max_7cf53_2 : decode cJ9_max_7cf53 2 = .ok (.if_icmp .lt 7, 3) := by decide +kernel
theorem dJ9_max_7cf53_5 : decode cJ9_max_7cf53 5 = .ok (.iload_n 0, 1) := by decide +kernel
theorem dJ9_max_7cf53_6 : decode cJ9_max_7cf53 6 = .ok (.goto 4, 3) := by decide +kernel
theorem dJ9_max_7cf53_9 : decode cJ9_max_7cf53 9 = .ok (.iload_n 1, 1) := by decide +kernel
theorem dJ9_max_7cf53_10 : decode cJ9_max_7cf53 10 = .ok (.ireturn, 1) := by decide +kernel
theorem dJ9_min_7cf53_0 : decode cJ9_min_7cf53 0 = .ok (.iload_n 0, 1) := by decide +kernel
theorem dJ9_min_7cf53_1 : decode cJ9_min_7cf53 1 = .ok (.iload_n 1, 1) := by decide +kernel
theorem dJ9_min_7cf53_2 : decode cJ9_min_7cf53 2 = .ok (.if_icmp .gt 7, 3) := by decide +kernel
theorem dJ9_min_7cf53_5 : decode cJ9_min_7cf53 5 = .ok (.iload_n 0, 1) := by decide +kernel
theorem dJ9_min_7cf53_6 : decode cJ9_min_7cf53 6 = .ok (.goto 4, 3) := by decide +kernel
theorem dJ9_min_7cf53_9 : decode cJ9_min_7cf53 9 = .ok (.iload_n 1, 1) := by decide +kernel
theorem dJ9_min_7cf53_10 : decode cJ9_min_7cf53 10 = .ok (.ireturn, 1) := by decide +kernel
theorem dJ7_fill_d0a16_0 : decode cJ7_fill_d0a16 0 = .ok (.iconst 0, 1) := by decide +kernel
theorem dJ7_fill_d0a16_1 : decode cJ7_fill_d0a16 1 = .ok (.istore_n 3, 1) := by decide +kernel
theorem dJ7_fill_d0a16_2 : decode cJ7_fill_d0a16 2 = .ok (.aload_n 0, 1) := by decide +kernel
theorem dJ7_fill_d0a16_3 : decode cJ7_fill_d0a16 3 = .ok (.arraylength, 1) := by decide +kernel
theorem dJ7_fill_d0a16_4 : decode cJ7_fill_d0a16 4 = .ok (.istore 4, 2) := by decide +kernel
theorem dJ7_fill_d0a16_6 : decode cJ7_fill_d0a16 6 = .ok (.iload_n 3, 1) := by decide +kernel
theorem dJ7_fill_d0a16_7 : decode cJ7_fill_d0a16 7 = .ok (.iload 4, 2) := by decide +kernel
theorem dJ7_fill_d0a16_9 : decode cJ7_fill_d0a16 9 = .ok (.if_icmp .ge 13, 3) := by decide +kernel
theorem dJ7_fill_d0a16_12 : decode cJ7_fill_d0a16 12 = .ok (.aload_n 0, 1) := by decide +kernel
theorem dJ7_fill_d0a16_13 : decode cJ7_fill_d0a16 13 = .ok (.iload_n 3, 1) := by decide +kernel
theorem dJ7_fill_d0a16_14 : decode cJ7_fill_d0a16 14 = .ok (.lload_n 1, 1) := by decide +kernel
theorem dJ7_fill_d0a16_15 : decode cJ7_fill_d0a16 15 = .ok (.lastore, 1) := by decide +kernel
theorem dJ7_fill_d0a16_16 : decode cJ7_fill_d0a16 16 = .ok (.iinc 3 1, 3) := by decide +kernel
theorem dJ7_fill_d0a16_19 : decode cJ7_fill_d0a16 19 = .ok (.goto (-13), 3) := by decide +kernel
theorem dJ7_fill_d0a16_22 : decode cJ7_fill_d0a16 22 = .ok (.return_, 1) := by decide +kernel
theorem dJ7_fill_53178_0 : decode cJ7_fill_53178 0 = .ok (.iconst 0, 1) := by decide +kernel
theorem dJ7_fill_53178_1 : decode cJ7_fill_53178 1 = .ok (.istore_n 2, 1) := by decide +kernel
theorem dJ7_fill_53178_2 : decode cJ7_fill_53178 2 = .ok (.aload_n 0, 1) := by decide +kernel
theorem dJ7_fill_53178_3 : decode cJ7_fill_53178 3 = .ok (.arraylength, 1) := by decide +kernel
theorem dJ7_fill_53178_4 : decode cJ7_fill_53178 4 = .ok (.istore_n 3, 1) := by decide +kernel
theorem dJ7_fill_53178_5 : decode cJ7_fill_53178 5 = .ok (.iload_n 2, 1) := by decide +kernel
theorem dJ7_fill_53178_6 : decode cJ7_fill_53178 6 = .ok (.iload_n 3, 1) := by decide +kernel
theorem dJ7_fill_53178_7 : decode cJ7_fill_53178 7 = .ok (.if_icmp .ge 13, 3) := by decide +kernel
theorem dJ7_fill_53178_10 : decode cJ7_fill_53178 10 = .ok (.aload_n 0, 1) := by decide +kernel
theorem dJ7_fill_53178_11 : decode cJ7_fill_53178 11 = .ok (.iload_n 2, 1) := by decide +kernel
theorem dJ7_fill_53178_12 : decode cJ7_fill_53178 12 = .ok (.iload_n 1, 1) := by decide +kernel
theorem dJ7_fill_53178_13 : decode cJ7_fill_53178 13 = .ok (.iastore, 1) := by decide +kernel
theorem dJ7_fill_53178_14 : decode cJ7_fill_53178 14 = .ok (.iinc 2 1, 3) := by decide +kernel
theorem dJ7_fill_53178_17 : decode cJ7_fill_53178 17 = .ok (.goto (-12), 3) := by decide +kernel
theorem dJ7_fill_53178_20 : decode cJ7_fill_53178 20 = .ok (.return_, 1) := by decide +kernel
set_option maxRecDepth 20000 in
theorem ggL_law_X6_init : GoodIn wsL_law wsX6_init := goodIn_r _ [8, 9, 10, 11, 12, 13, 14, 15, 16, 17, 18, 19, 20, 21, 22, 23, 24, 25, 26, 27, 28, 29, 30, 31, 32, 33, 34, 35, 36, 37, 38, 39, 40, 41, 42, 43, 44, 45, 46, 47, 48, 49, 50, 51, 52, 53, 54, 55, 56, 57, 58, 59, 60, 61, 62, 63, 64, 65, 66, 67, 68, 69, 70, 71, 72, 73, 74, 75, 76, 77, 78, 79, 80, 81, 82, 83, 84, 85, 86, 87, 88, 89, 90, 794, 795, 796, 797, 798, 799, 752, 753, 754, 755, 756, 757, 758, 759, 800, 801, 802, 803, 804, 805, 806, 807, 808, 809, 810, 811, 812, 813, 814, 815, 816, 817, 818, 819, 820, 821, 822, 823, 824, 825, 826, 827, 828, 829, 830] (by decide +kernel) (by decide +kernel)
set_option maxRecDepth 20000 in
theorem gL_law_X6_init : GoodIn wsL_law (wsX6_init) := ggL_law_X6_init
set_option maxRecDepth 20000 in
theorem ggL_law_X7_init : GoodIn wsL_law wsX7_init := goodIn_r _ [93, 94, 10, 11, 95, 20, 96, 97, 98, 99, 100, 101, 102, 103, 104, 105, 106, 107, 108, 109, 110, 111, 112, 113, 114, 5, 115, 116, 760, 761, 762, 763, 764, 765, 766, 767, 768, 769, 770, 771, 772, 773, 774, 775, 776, 777, 778, 779, 780, 781, 782, 783, 784, 785, 786, 787, 788, 789, 790, 791, 792, 793] (by decide +kernel) (by decide +kernel)
set_option maxRecDepth 20000 in
theorem gL_law_X7_init : GoodIn wsL_law (wsX7_init) := ggL_law_X7_init
set_option maxRecDepth 20000 in
theorem ggL_law_X6_net : GoodIn wsL_law wsX6_net := goodIn_r _ [120, 15, 21, 121, 122, 2, 123, 124, 48, 49, 14, 50, 51, 52, 43, 44, 45, 53, 54, 55, 56, 125, 752, 753, 754, 755, 756, 757, 758, 759, 794, 795, 796, 797, 798, 799] (by decide +kernel) (by decide +kernel)
set_option maxRecDepth 20000 in
theorem gL_law_X6_net : GoodIn wsL_law (wsV RL 13 RX6 yX6_net wsX6_net) := goodIn_app (goodIn_of _ (by decide +kernel)) ggL_law_X6_net
set_option maxRecDepth 20000 in
theorem ggL_law_X7_net : GoodIn wsL_law wsX7_net := goodIn_r _ [129, 130, 95, 131, 132, 5, 133, 112, 113, 114, 115, 116, 97, 98, 99, 102, 760, 761, 762, 763, 764, 765, 766, 767, 768, 769, 770, 771, 772, 773, 774, 775, 776, 777, 778, 779, 780, 781, 782, 783, 784, 785, 786, 787, 788, 789, 790, 791, 792, 793] (by decide +kernel) (by decide +kernel)
set_option maxRecDepth 20000 in
theorem gL_law_X7_net : GoodIn wsL_law (wsV RL 17 RX7 yX7_net wsX7_net) := goodIn_app (goodIn_of _ (by decide +kernel)) ggL_law_X7_net
set_option maxRecDepth 20000 in
theorem ggL_law_X6_line : GoodIn wsL_law wsX6_line := goodIn_r _ [137, 15, 138, 139, 140, 141, 14, 142, 51, 122, 2, 123, 143, 144, 145, 146, 147, 148, 149, 150, 45, 151, 152, 153, 154, 155, 156, 52, 46, 157, 752, 753, 754, 755, 756, 757, 758, 759, 794, 795, 796, 797, 798, 799] (by decide +kernel) (by decide +kernel)
set_option maxRecDepth 20000 in
theorem gL_law_X6_line : GoodIn wsL_law (wsV RL 18 RX6 yX6_line wsX6_line) := goodIn_app (goodIn_of _ (by decide +kernel)) ggL_law_X6_line
set_option maxRecDepth 20000 in
theorem ggL_law_X7_line : GoodIn wsL_law wsX7_line := goodIn_r _ [161, 97, 116, 96, 162, 163, 164, 5, 165, 95, 131, 132, 133, 760, 761, 762, 763, 764, 765, 766, 767, 768, 769, 770, 771, 772, 773, 774, 775, 776, 777, 778, 779, 780, 781, 782, 783, 784, 785, 786, 787, 788, 789, 790, 791, 792, 793] (by decide +kernel) (by decide +kernel)
set_option maxRecDepth 20000 in
theorem gL_law_X7_line : GoodIn wsL_law (wsV RL 22 RX7 yX7_line wsX7_line) := goodIn_app (goodIn_of _ (by decide +kernel)) ggL_law_X7_line
set_option maxRecDepth 20000 in
theorem ggL_law_X6_node : GoodIn wsL_law wsX6_node := goodIn_r _ [169, 15, 170, 171, 139, 140, 141, 14, 142, 51, 122, 2, 123, 121, 172, 173, 174, 752, 753, 754, 755, 756, 757, 758, 759, 794, 795, 796, 797, 798, 799] (by decide +kernel) (by decide +kernel)
set_option maxRecDepth 20000 in
theorem gL_law_X6_node : GoodIn wsL_law (wsV RL 23 RX6 yX6_node wsX6_node) := goodIn_app (goodIn_of _ (by decide +kernel)) ggL_law_X6_node
set_option maxRecDepth 20000 in
theorem ggL_law_X7_node : GoodIn wsL_law wsX7_node := goodIn_r _ [178, 179, 98, 99, 162, 163, 164, 5, 165, 95, 131, 132, 133, 760, 761, 762, 763, 764, 765, 766, 767, 768, 769, 770, 771, 772, 773, 774, 775, 776, 777, 778, 779, 780, 781, 782, 783, 784, 785, 786, 787, 788, 789, 790, 791, 792, 793] (by decide +kernel) (by decide +kernel)
set_option maxRecDepth 20000 in
theorem gL_law_X7_node : GoodIn wsL_law (wsV RL 27 RX7 yX7_node wsX7_node) := goodIn_app (goodIn_of _ (by decide +kernel)) ggL_law_X7_node
set_option maxRecDepth 20000 in
theorem ggL_law_X6_purse : GoodIn wsL_law wsX6_purse := goodIn_r _ [183, 19, 184, 121, 122, 2, 123, 172, 173, 174, 752, 753, 754, 755, 756, 757, 758, 759, 800, 801] (by decide +kernel) (by decide +kernel)
set_option maxRecDepth 20000 in
theorem gL_law_X6_purse : GoodIn wsL_law (wsV RL 28 RX6 yX6_purse wsX6_purse) := goodIn_app (goodIn_of _ (by decide +kernel)) ggL_law_X6_purse
set_option maxRecDepth 20000 in
theorem ggL_law_X7_purse : GoodIn wsL_law wsX7_purse := goodIn_r _ [188, 189, 190, 100, 131, 132, 5, 133, 760, 761, 762, 763, 764, 765, 766, 767, 768, 769, 770, 771, 772, 773, 774, 775, 776, 777, 778, 779, 780, 781, 782, 783, 784, 785, 786, 787, 788, 789, 790, 791, 792, 793] (by decide +kernel) (by decide +kernel)
set_option maxRecDepth 20000 in
theorem gL_law_X7_purse : GoodIn wsL_law (wsV RL 31 RX7 yX7_purse wsX7_purse) := goodIn_app (goodIn_of _ (by decide +kernel)) ggL_law_X7_purse
set_option maxRecDepth 20000 in
theorem ggL_law_X6_rule : GoodIn wsL_law wsX6_rule := goodIn_r _ [194, 19, 195, 38, 121, 122, 2, 123, 752, 753, 754, 755, 756, 757, 758, 759, 800, 801] (by decide +kernel) (by decide +kernel)
set_option maxRecDepth 20000 in
theorem gL_law_X6_rule : GoodIn wsL_law (wsV RL 32 RX6 yX6_rule wsX6_rule) := goodIn_app (goodIn_of _ (by decide +kernel)) ggL_law_X6_rule
set_option maxRecDepth 20000 in
theorem ggL_law_X7_rule : GoodIn wsL_law wsX7_rule := goodIn_r _ [199, 200, 201, 202, 101, 131, 132, 5, 133, 760, 761, 762, 763, 764, 765, 766, 767, 768, 769, 770, 771, 772, 773, 774, 775, 776, 777, 778, 779, 780, 781, 782, 783, 784, 785, 786, 787, 788, 789, 790, 791, 792, 793] (by decide +kernel) (by decide +kernel)
set_option maxRecDepth 20000 in
theorem gL_law_X7_rule : GoodIn wsL_law (wsV RL 35 RX7 yX7_rule wsX7_rule) := goodIn_app (goodIn_of _ (by decide +kernel)) ggL_law_X7_rule
set_option maxRecDepth 20000 in
theorem ggL_law_X6_count : GoodIn wsL_law wsX6_count := goodIn_r _ [206, 15, 207, 138, 37, 208, 209, 210, 211, 14, 212, 51, 213, 214, 215, 216, 43, 217, 218, 219, 220, 221, 222, 36, 223, 224, 86, 225, 226, 227, 228, 752, 753, 754, 755, 756, 757, 758, 759, 794, 795, 796, 797, 798, 799, 822, 823, 824, 825, 826, 827, 828, 829, 830] (by decide +kernel) (by decide +kernel)
set_option maxRecDepth 20000 in
theorem gL_law_X6_count : GoodIn wsL_law (wsV RL 36 RX6 yX6_count wsX6_count) := goodIn_app (goodIn_of _ (by decide +kernel)) ggL_law_X6_count
set_option maxRecDepth 20000 in
theorem ggL_law_X7_count : GoodIn wsL_law wsX7_count := goodIn_r _ [232, 233, 103, 95, 116, 234, 235, 236, 5, 237, 238, 239, 240, 241, 98, 760, 761, 762, 763, 764, 765, 766, 767, 768, 769, 770, 771, 772, 773, 774, 775, 776, 777, 778, 779, 780, 781, 782, 783, 784, 785, 786, 787, 788, 789, 790, 791, 792, 793] (by decide +kernel) (by decide +kernel)
set_option maxRecDepth 20000 in
theorem gL_law_X7_count : GoodIn wsL_law (wsV RL 39 RX7 yX7_count wsX7_count) := goodIn_app (goodIn_of _ (by decide +kernel)) ggL_law_X7_count
set_option maxRecDepth 20000 in
theorem ggL_law_X6_plan : GoodIn wsL_law wsX6_plan := goodIn_r _ [245, 21, 121, 122, 2, 123, 172, 173, 174, 752, 753, 754, 755, 756, 757, 758, 759] (by decide +kernel) (by decide +kernel)
set_option maxRecDepth 20000 in
theorem gL_law_X6_plan : GoodIn wsL_law (wsV RL 40 RX6 yX6_plan wsX6_plan) := goodIn_app (goodIn_of _ (by decide +kernel)) ggL_law_X6_plan
set_option maxRecDepth 20000 in
theorem ggL_law_X7_plan : GoodIn wsL_law wsX7_plan := goodIn_r _ [249, 189, 250, 102, 131, 132, 5, 133, 760, 761, 762, 763, 764, 765, 766, 767, 768, 769, 770, 771, 772, 773, 774, 775, 776, 777, 778, 779, 780, 781, 782, 783, 784, 785, 786, 787, 788, 789, 790, 791, 792, 793] (by decide +kernel) (by decide +kernel)
set_option maxRecDepth 20000 in
theorem gL_law_X7_plan : GoodIn wsL_law (wsV RL 43 RX7 yX7_plan wsX7_plan) := goodIn_app (goodIn_of _ (by decide +kernel)) ggL_law_X7_plan
set_option maxRecDepth 20000 in
theorem ggL_law_X6_play : GoodIn wsL_law wsX6_play := goodIn_r _ [254, 15, 25, 255, 256, 257, 258, 259, 260, 261, 262, 14, 263, 264, 210, 211, 212, 51, 122, 2, 123, 121, 265, 266, 267, 268, 19, 21, 269, 270, 271, 24, 272, 273, 274, 275, 276, 277, 278, 279, 280, 281, 282, 283, 284, 285, 286, 287, 288, 289, 290, 18, 291, 292, 293, 227, 294, 295, 226, 228, 61, 296, 297, 298, 299, 300, 301, 302, 303, 304, 305, 306, 307, 308, 44, 217, 218, 219, 309, 310, 311, 312, 313, 314, 315, 316, 317, 318, 319, 320, 321, 45, 151, 152, 322, 323, 324, 325, 43, 752, 753, 754, 755, 756, 757, 758, 759, 802, 803, 804, 805, 806, 807, 808, 794, 795, 796, 797, 798, 799, 800, 801] (by decide +kernel) (by decide +kernel)
set_option maxRecDepth 20000 in
theorem gL_law_X6_play : GoodIn wsL_law (wsV RL 44 RX6 yX6_play wsX6_play) := goodIn_app (goodIn_of _ (by decide +kernel)) ggL_law_X6_play
set_option maxRecDepth 20000 in
theorem ggL_law_X7_play : GoodIn wsL_law wsX7_play := goodIn_r _ [329, 330, 331, 332, 333, 334, 335, 336, 337, 338, 5, 339, 234, 235, 236, 237, 95, 131, 132, 133, 340, 341, 342, 343, 102, 344, 345, 346, 347, 348, 349, 350, 351, 352, 202, 100, 353, 354, 355, 356, 357, 358, 359, 360, 99, 361, 362, 363, 364, 365, 366, 367, 368, 369, 370, 371, 372, 97, 373, 374, 375, 376, 238, 239, 240, 241, 98, 760, 761, 762, 763, 764, 765, 766, 767, 768, 769, 770, 771, 772, 773, 774, 775, 776, 777, 778, 779, 780, 781, 782, 783, 784, 785, 786, 787, 788, 789, 790, 791, 792, 793] (by decide +kernel) (by decide +kernel)
set_option maxRecDepth 20000 in
theorem gL_law_X7_play : GoodIn wsL_law (wsV RL 47 RX7 yX7_play wsX7_play) := goodIn_app (goodIn_of _ (by decide +kernel)) ggL_law_X7_play
set_option maxRecDepth 20000 in
theorem ggL_law_X6_burns : GoodIn wsL_law wsX6_burns := goodIn_r _ [380, 15, 25, 256, 260, 261, 262, 14, 263, 264, 210, 211, 212, 51, 122, 2, 123, 121, 265, 266, 267, 268, 19, 21, 269, 270, 271, 24, 272, 273, 274, 275, 276, 277, 278, 279, 280, 281, 282, 283, 284, 285, 286, 287, 288, 289, 290, 18, 291, 292, 293, 227, 294, 295, 226, 228, 61, 296, 297, 298, 299, 300, 301, 302, 303, 304, 305, 306, 307, 308, 44, 217, 218, 219, 309, 310, 311, 312, 313, 314, 315, 316, 317, 318, 319, 320, 321, 45, 151, 152, 752, 753, 754, 755, 756, 757, 758, 759, 802, 803, 804, 805, 806, 807, 808, 794, 795, 796, 797, 798, 799, 800, 801] (by decide +kernel) (by decide +kernel)
set_option maxRecDepth 20000 in
theorem gL_law_X6_burns : GoodIn wsL_law (wsV RL 48 RX6 yX6_burns wsX6_burns) := goodIn_app (goodIn_of _ (by decide +kernel)) ggL_law_X6_burns
set_option maxRecDepth 20000 in
theorem ggL_law_X7_burns : GoodIn wsL_law wsX7_burns := goodIn_r _ [384, 190, 332, 336, 337, 338, 5, 339, 234, 235, 236, 237, 95, 131, 132, 133, 340, 341, 342, 343, 331, 334, 102, 344, 345, 346, 347, 333, 348, 335, 349, 350, 351, 352, 202, 100, 353, 354, 355, 356, 357, 358, 359, 360, 99, 361, 362, 363, 364, 365, 366, 367, 368, 369, 370, 371, 372, 97, 760, 761, 762, 763, 764, 765, 766, 767, 768, 769, 770, 771, 772, 773, 774, 775, 776, 777, 778, 779, 780, 781, 782, 783, 784, 785, 786, 787, 788, 789, 790, 791, 792, 793] (by decide +kernel) (by decide +kernel)
set_option maxRecDepth 20000 in
theorem gL_law_X7_burns : GoodIn wsL_law (wsV RL 51 RX7 yX7_burns wsX7_burns) := goodIn_app (goodIn_of _ (by decide +kernel)) ggL_law_X7_burns
set_option maxRecDepth 20000 in
theorem ggL_law_X6_best : GoodIn wsL_law wsX6_best := goodIn_r _ [388, 15, 29, 389, 390, 391, 392, 260, 261, 262, 14, 263, 264, 210, 211, 212, 51, 122, 2, 123, 121, 393, 394, 395, 396, 397, 19, 38, 398, 399, 400, 18, 401, 61, 402, 403, 404, 405, 296, 406, 407, 408, 28, 409, 410, 411, 412, 413, 71, 414, 289, 290, 291, 292, 293, 227, 294, 295, 226, 228, 415, 416, 417, 418, 419, 420, 306, 307, 308, 44, 217, 218, 219, 421, 422, 423, 424, 425, 426, 427, 428, 429, 430, 72, 431, 319, 320, 321, 45, 151, 152, 432, 433, 434, 435, 436, 73, 437, 323, 324, 325, 43, 438, 439, 440, 441, 752, 753, 754, 755, 756, 757, 758, 759, 809, 810, 811, 812, 813, 814, 815, 816, 794, 795, 796, 797, 798, 799, 800, 801] (by decide +kernel) (by decide +kernel)
set_option maxRecDepth 20000 in
theorem gL_law_X6_best : GoodIn wsL_law (wsV RL 52 RX6 yX6_best wsX6_best) := goodIn_app (goodIn_of _ (by decide +kernel)) ggL_law_X6_best
set_option maxRecDepth 20000 in
theorem ggL_law_X7_best : GoodIn wsL_law wsX7_best := goodIn_r _ [445, 446, 447, 448, 449, 450, 108, 336, 337, 338, 5, 339, 234, 235, 236, 237, 95, 131, 132, 133, 451, 452, 453, 454, 109, 104, 348, 101, 357, 358, 359, 360, 99, 344, 345, 346, 347, 332, 333, 335, 349, 350, 351, 352, 202, 100, 455, 456, 457, 458, 105, 106, 107, 459, 460, 461, 462, 463, 464, 465, 466, 361, 362, 363, 364, 365, 366, 367, 368, 369, 370, 371, 372, 97, 467, 468, 469, 470, 373, 374, 375, 376, 238, 239, 240, 241, 98, 760, 761, 762, 763, 764, 765, 766, 767, 768, 769, 770, 771, 772, 773, 774, 775, 776, 777, 778, 779, 780, 781, 782, 783, 784, 785, 786, 787, 788, 789, 790, 791, 792, 793] (by decide +kernel) (by decide +kernel)
set_option maxRecDepth 20000 in
theorem gL_law_X7_best : GoodIn wsL_law (wsV RL 55 RX7 yX7_best wsX7_best) := goodIn_app (goodIn_of _ (by decide +kernel)) ggL_law_X7_best
set_option maxRecDepth 20000 in
theorem ggL_law_X6_take : GoodIn wsL_law wsX6_take := goodIn_r _ [474, 15, 21, 29, 389, 260, 261, 262, 14, 263, 264, 210, 211, 212, 51, 122, 2, 123, 393, 394, 395, 396, 397, 19, 38, 398, 399, 400, 18, 401, 61, 402, 403, 404, 405, 296, 406, 407, 408, 28, 409, 410, 411, 412, 413, 71, 414, 289, 290, 291, 292, 293, 227, 294, 295, 226, 228, 415, 416, 417, 418, 419, 420, 306, 307, 308, 44, 217, 218, 219, 421, 422, 423, 424, 425, 426, 427, 428, 429, 430, 72, 431, 319, 320, 321, 45, 151, 152, 432, 433, 434, 435, 436, 73, 437, 323, 324, 325, 43, 438, 439, 440, 441, 752, 753, 754, 755, 756, 757, 758, 759, 809, 810, 811, 812, 813, 814, 815, 816, 794, 795, 796, 797, 798, 799, 800, 801] (by decide +kernel) (by decide +kernel)
set_option maxRecDepth 20000 in
theorem gL_law_X6_take : GoodIn wsL_law (wsV RL 56 RX6 yX6_take wsX6_take) := goodIn_app (goodIn_of _ (by decide +kernel)) ggL_law_X6_take
set_option maxRecDepth 20000 in
theorem ggL_law_X7_take : GoodIn wsL_law wsX7_take := goodIn_r _ [478, 102, 108, 447, 336, 337, 338, 5, 339, 234, 235, 236, 237, 95, 131, 132, 133, 451, 452, 453, 454, 109, 448, 449, 450, 104, 348, 101, 357, 358, 359, 360, 99, 344, 345, 346, 347, 332, 333, 335, 349, 350, 351, 352, 202, 100, 455, 456, 457, 458, 105, 106, 107, 459, 460, 461, 462, 463, 464, 465, 466, 361, 362, 363, 364, 365, 366, 367, 368, 369, 370, 371, 372, 97, 467, 468, 469, 470, 373, 374, 375, 376, 238, 239, 240, 241, 98, 760, 761, 762, 763, 764, 765, 766, 767, 768, 769, 770, 771, 772, 773, 774, 775, 776, 777, 778, 779, 780, 781, 782, 783, 784, 785, 786, 787, 788, 789, 790, 791, 792, 793] (by decide +kernel) (by decide +kernel)
set_option maxRecDepth 20000 in
theorem gL_law_X7_take : GoodIn wsL_law (wsV RL 59 RX7 yX7_take wsX7_take) := goodIn_app (goodIn_of _ (by decide +kernel)) ggL_law_X7_take
set_option maxRecDepth 20000 in
theorem ggL_law_X6_least : GoodIn wsL_law wsX6_least := goodIn_r _ [482, 15, 29, 397, 19, 195, 184, 38, 389, 260, 261, 262, 14, 263, 264, 210, 211, 212, 51, 122, 2, 123, 121, 125, 54, 55, 56, 406, 407, 408, 28, 409, 410, 411, 412, 413, 71, 414, 289, 290, 18, 291, 292, 293, 227, 294, 295, 226, 228, 61, 296, 415, 416, 417, 418, 419, 420, 306, 307, 308, 44, 217, 218, 219, 421, 422, 423, 424, 425, 426, 427, 428, 429, 430, 72, 431, 319, 320, 321, 45, 151, 152, 432, 433, 434, 435, 436, 73, 437, 323, 324, 325, 43, 752, 753, 754, 755, 756, 757, 758, 759, 809, 810, 811, 812, 813, 814, 815, 816, 800, 801, 794, 795, 796, 797, 798, 799] (by decide +kernel) (by decide +kernel)
set_option maxRecDepth 20000 in
theorem gL_law_X6_least : GoodIn wsL_law (wsV RL 60 RX6 yX6_least wsX6_least) := goodIn_app (goodIn_of _ (by decide +kernel)) ggL_law_X6_least
set_option maxRecDepth 20000 in
theorem ggL_law_X7_least : GoodIn wsL_law wsX7_least := goodIn_r _ [486, 487, 110, 100, 447, 336, 337, 338, 5, 339, 234, 235, 236, 237, 95, 131, 132, 133, 451, 452, 453, 454, 109, 448, 449, 450, 104, 348, 101, 357, 358, 359, 360, 99, 344, 345, 346, 347, 332, 333, 335, 349, 350, 351, 352, 202, 455, 456, 457, 458, 105, 106, 107, 459, 460, 461, 462, 463, 464, 465, 466, 361, 362, 363, 364, 365, 366, 367, 368, 369, 370, 371, 372, 97, 467, 468, 469, 470, 108, 373, 374, 375, 376, 238, 239, 240, 241, 98, 760, 761, 762, 763, 764, 765, 766, 767, 768, 769, 770, 771, 772, 773, 774, 775, 776, 777, 778, 779, 780, 781, 782, 783, 784, 785, 786, 787, 788, 789, 790, 791, 792, 793] (by decide +kernel) (by decide +kernel)
set_option maxRecDepth 20000 in
theorem gL_law_X7_least : GoodIn wsL_law (wsV RL 63 RX7 yX7_least wsX7_least) := goodIn_app (goodIn_of _ (by decide +kernel)) ggL_law_X7_least
set_option maxRecDepth 20000 in
theorem ggL_law_X6_live : GoodIn wsL_law wsX6_live := goodIn_r _ [491, 15, 25, 256, 257, 258, 492, 493, 2, 494, 121, 122, 123, 260, 261, 262, 14, 263, 264, 210, 211, 212, 51, 495, 496, 497, 498, 19, 269, 270, 271, 24, 272, 273, 274, 275, 276, 277, 278, 279, 280, 281, 282, 283, 284, 285, 286, 287, 288, 289, 290, 18, 291, 292, 293, 227, 294, 295, 226, 228, 61, 296, 499, 500, 501, 502, 503, 504, 505, 506, 44, 507, 319, 320, 321, 45, 151, 152, 508, 509, 510, 511, 43, 512, 513, 514, 515, 516, 517, 518, 309, 306, 307, 308, 217, 218, 219, 310, 311, 312, 313, 314, 315, 316, 317, 318, 322, 323, 324, 325, 752, 753, 754, 755, 756, 757, 758, 759, 802, 803, 804, 805, 806, 807, 808, 794, 795, 796, 797, 798, 799, 800, 801] (by decide +kernel) (by decide +kernel)
set_option maxRecDepth 20000 in
theorem gL_law_X6_live : GoodIn wsL_law (wsV RL 64 RX6 yX6_live wsX6_live) := goodIn_app (goodIn_of _ (by decide +kernel)) ggL_law_X6_live
set_option maxRecDepth 20000 in
theorem ggL_law_X7_live : GoodIn wsL_law wsX7_live := goodIn_r _ [522, 523, 333, 524, 525, 5, 526, 131, 132, 133, 336, 337, 338, 339, 234, 235, 236, 237, 95, 527, 528, 529, 530, 344, 345, 346, 347, 332, 348, 335, 349, 350, 351, 352, 202, 100, 531, 532, 533, 534, 99, 98, 97, 369, 370, 371, 372, 535, 536, 537, 361, 362, 363, 364, 357, 358, 359, 360, 365, 366, 367, 368, 373, 374, 375, 376, 238, 239, 240, 241, 760, 761, 762, 763, 764, 765, 766, 767, 768, 769, 770, 771, 772, 773, 774, 775, 776, 777, 778, 779, 780, 781, 782, 783, 784, 785, 786, 787, 788, 789, 790, 791, 792, 793] (by decide +kernel) (by decide +kernel)
set_option maxRecDepth 20000 in
theorem gL_law_X7_live : GoodIn wsL_law (wsV RL 67 RX7 yX7_live wsX7_live) := goodIn_app (goodIn_of _ (by decide +kernel)) ggL_law_X7_live
set_option maxRecDepth 20000 in
theorem ggL_law_X6_share : GoodIn wsL_law wsX6_share := goodIn_r _ [541, 15, 29, 389, 492, 493, 2, 494, 121, 122, 123, 260, 261, 262, 14, 263, 264, 210, 211, 212, 51, 542, 543, 544, 545, 25, 256, 495, 496, 497, 498, 19, 269, 270, 271, 24, 272, 273, 274, 275, 276, 277, 278, 279, 280, 281, 282, 283, 284, 285, 286, 287, 288, 289, 290, 18, 291, 292, 293, 227, 294, 295, 226, 228, 61, 296, 499, 500, 501, 502, 503, 504, 505, 506, 44, 507, 319, 320, 321, 45, 151, 152, 508, 509, 510, 511, 43, 512, 513, 514, 515, 516, 517, 518, 309, 306, 307, 308, 217, 218, 219, 310, 311, 312, 313, 314, 315, 316, 317, 318, 322, 323, 324, 325, 393, 394, 395, 396, 397, 38, 398, 399, 400, 401, 402, 403, 404, 405, 406, 407, 408, 28, 409, 410, 411, 412, 413, 71, 414, 415, 416, 417, 418, 419, 420, 421, 422, 423, 424, 425, 426, 427, 428, 429, 430, 72, 431, 432, 433, 434, 435, 436, 73, 437, 546, 547, 548, 549, 550, 551, 752, 753, 754, 755, 756, 757, 758, 759, 809, 810, 811, 812, 813, 814, 815, 816, 794, 795, 796, 797, 798, 799, 802, 803, 804, 805, 806, 807, 808, 800, 801] (by decide +kernel) (by decide +kernel)
set_option maxRecDepth 20000 in
theorem gL_law_X6_share : GoodIn wsL_law (wsV RL 68 RX6 yX6_share wsX6_share) := goodIn_app (goodIn_of _ (by decide +kernel)) ggL_law_X6_share
set_option maxRecDepth 20000 in
theorem ggL_law_X7_share : GoodIn wsL_law wsX7_share := goodIn_r _ [555, 556, 557, 524, 525, 5, 526, 523, 131, 132, 133, 336, 337, 338, 339, 234, 235, 236, 237, 95, 558, 559, 560, 561, 447, 527, 528, 529, 530, 344, 345, 346, 347, 332, 333, 348, 335, 349, 350, 351, 352, 202, 100, 531, 532, 533, 534, 99, 98, 97, 369, 370, 371, 372, 535, 536, 537, 361, 362, 363, 364, 357, 358, 359, 360, 365, 366, 367, 368, 373, 374, 375, 376, 238, 239, 240, 241, 451, 452, 453, 454, 109, 448, 449, 450, 104, 101, 455, 456, 457, 458, 105, 106, 107, 459, 460, 461, 462, 463, 464, 465, 466, 467, 468, 469, 470, 108, 562, 563, 564, 760, 761, 762, 763, 764, 765, 766, 767, 768, 769, 770, 771, 772, 773, 774, 775, 776, 777, 778, 779, 780, 781, 782, 783, 784, 785, 786, 787, 788, 789, 790, 791, 792, 793] (by decide +kernel) (by decide +kernel)
set_option maxRecDepth 20000 in
theorem gL_law_X7_share : GoodIn wsL_law (wsV RL 71 RX7 yX7_share wsX7_share) := goodIn_app (goodIn_of _ (by decide +kernel)) ggL_law_X7_share
set_option maxRecDepth 20000 in
theorem ggL_law_X6_worst : GoodIn wsL_law wsX6_worst := goodIn_r _ [568, 15, 207, 29, 389, 492, 493, 2, 494, 121, 122, 123, 542, 543, 544, 545, 25, 256, 495, 496, 497, 498, 19, 269, 270, 271, 24, 272, 273, 274, 275, 276, 277, 278, 279, 280, 281, 282, 283, 284, 285, 286, 287, 288, 289, 290, 18, 291, 292, 293, 227, 294, 295, 226, 228, 61, 296, 499, 500, 501, 502, 503, 504, 505, 14, 506, 44, 507, 319, 320, 321, 45, 151, 152, 508, 509, 510, 511, 43, 512, 513, 514, 515, 516, 517, 518, 309, 306, 307, 308, 217, 218, 219, 310, 311, 312, 313, 314, 315, 316, 317, 318, 322, 323, 324, 325, 264, 210, 211, 212, 51, 393, 394, 395, 396, 397, 38, 398, 399, 400, 401, 402, 403, 404, 405, 406, 407, 408, 28, 409, 410, 411, 412, 413, 71, 414, 415, 416, 417, 418, 419, 420, 421, 422, 423, 424, 425, 426, 427, 428, 429, 430, 72, 431, 432, 433, 434, 435, 436, 73, 437, 752, 753, 754, 755, 756, 757, 758, 759, 794, 795, 796, 797, 798, 799, 809, 810, 811, 812, 813, 814, 815, 816, 802, 803, 804, 805, 806, 807, 808, 800, 801] (by decide +kernel) (by decide +kernel)
set_option maxRecDepth 20000 in
theorem gL_law_X6_worst : GoodIn wsL_law (wsV RL 72 RX6 yX6_worst wsX6_worst) := goodIn_app (goodIn_of _ (by decide +kernel)) ggL_law_X6_worst
set_option maxRecDepth 20000 in
theorem ggL_law_X7_worst : GoodIn wsL_law wsX7_worst := goodIn_r _ [572, 95, 556, 557, 524, 525, 5, 526, 523, 131, 132, 133, 558, 559, 560, 561, 447, 527, 528, 529, 530, 344, 345, 346, 347, 332, 333, 348, 335, 349, 350, 351, 352, 202, 100, 531, 532, 533, 534, 99, 98, 97, 369, 370, 371, 372, 535, 536, 537, 361, 362, 363, 364, 357, 358, 359, 360, 365, 366, 367, 368, 373, 374, 375, 376, 234, 235, 236, 237, 238, 239, 240, 241, 451, 452, 453, 454, 109, 448, 449, 450, 104, 101, 455, 456, 457, 458, 105, 106, 107, 459, 460, 461, 462, 463, 464, 465, 466, 467, 468, 469, 470, 108, 760, 761, 762, 763, 764, 765, 766, 767, 768, 769, 770, 771, 772, 773, 774, 775, 776, 777, 778, 779, 780, 781, 782, 783, 784, 785, 786, 787, 788, 789, 790, 791, 792, 793] (by decide +kernel) (by decide +kernel)
set_option maxRecDepth 20000 in
theorem gL_law_X7_worst : GoodIn wsL_law (wsV RL 75 RX7 yX7_worst wsX7_worst) := goodIn_app (goodIn_of _ (by decide +kernel)) ggL_law_X7_worst
set_option maxRecDepth 20000 in
theorem ggL_law_X6_mean : GoodIn wsL_law wsX6_mean := goodIn_r _ [576, 15, 492, 493, 2, 494, 121, 122, 123, 260, 261, 262, 14, 263, 264, 210, 211, 212, 51, 577, 151, 152, 542, 543, 544, 545, 25, 256, 495, 496, 497, 498, 19, 269, 270, 271, 24, 272, 273, 274, 275, 276, 277, 278, 279, 280, 281, 282, 283, 284, 285, 286, 287, 288, 289, 290, 18, 291, 292, 293, 227, 294, 295, 226, 228, 61, 296, 499, 500, 501, 502, 503, 504, 505, 506, 44, 507, 319, 320, 321, 45, 508, 509, 510, 511, 43, 512, 513, 514, 515, 516, 517, 518, 309, 306, 307, 308, 217, 218, 219, 310, 311, 312, 313, 314, 315, 316, 317, 318, 322, 323, 324, 325, 578, 546, 547, 548, 549, 550, 551, 752, 753, 754, 755, 756, 757, 758, 759, 794, 795, 796, 797, 798, 799, 802, 803, 804, 805, 806, 807, 808, 800, 801] (by decide +kernel) (by decide +kernel)
set_option maxRecDepth 20000 in
theorem gL_law_X6_mean : GoodIn wsL_law (wsV RL 76 RX6 yX6_mean wsX6_mean) := goodIn_app (goodIn_of _ (by decide +kernel)) ggL_law_X6_mean
set_option maxRecDepth 20000 in
theorem ggL_law_X7_mean : GoodIn wsL_law wsX7_mean := goodIn_r _ [582, 95, 524, 525, 5, 526, 523, 131, 132, 133, 336, 337, 338, 339, 234, 235, 236, 237, 527, 528, 529, 530, 344, 345, 346, 347, 332, 333, 348, 335, 349, 350, 351, 352, 202, 100, 531, 532, 533, 534, 99, 98, 97, 369, 370, 371, 372, 535, 536, 537, 361, 362, 363, 364, 357, 358, 359, 360, 365, 366, 367, 368, 373, 374, 375, 376, 238, 239, 240, 241, 562, 563, 564, 760, 761, 762, 763, 764, 765, 766, 767, 768, 769, 770, 771, 772, 773, 774, 775, 776, 777, 778, 779, 780, 781, 782, 783, 784, 785, 786, 787, 788, 789, 790, 791, 792, 793] (by decide +kernel) (by decide +kernel)
set_option maxRecDepth 20000 in
theorem gL_law_X7_mean : GoodIn wsL_law (wsV RL 79 RX7 yX7_mean wsX7_mean) := goodIn_app (goodIn_of _ (by decide +kernel)) ggL_law_X7_mean
set_option maxRecDepth 20000 in
theorem ggL_law_X6_chance : GoodIn wsL_law wsX6_chance := goodIn_r _ [586, 15, 587, 588, 138, 589, 33, 139, 140, 141, 14, 142, 51, 122, 2, 123, 260, 261, 262, 263, 264, 210, 211, 212, 209, 121, 590, 591, 592, 32, 593, 594, 595, 293, 227, 294, 596, 79, 597, 598, 599, 600, 601, 602, 603, 46, 604, 605, 606, 607, 608, 609, 610, 611, 612, 613, 614, 615, 616, 617, 618, 151, 152, 619, 620, 621, 622, 623, 624, 625, 626, 546, 547, 548, 549, 550, 551, 752, 753, 754, 755, 756, 757, 758, 759, 794, 795, 796, 797, 798, 799, 817, 818, 819, 820, 821] (by decide +kernel) (by decide +kernel)
set_option maxRecDepth 20000 in
theorem gL_law_X6_chance : GoodIn wsL_law (wsV RL 80 RX6 yX6_chance wsX6_chance) := goodIn_app (goodIn_of _ (by decide +kernel)) ggL_law_X6_chance
set_option maxRecDepth 20000 in
theorem ggL_law_X7_chance : GoodIn wsL_law wsX7_chance := goodIn_r _ [630, 631, 632, 633, 116, 634, 162, 163, 164, 5, 165, 95, 131, 132, 133, 336, 337, 338, 339, 234, 235, 236, 237, 635, 636, 637, 638, 96, 639, 640, 641, 760, 761, 762, 763, 764, 765, 766, 767, 768, 769, 770, 771, 772, 773, 774, 775, 776, 777, 778, 779, 780, 781, 782, 783, 784, 785, 786, 787, 788, 789, 790, 791, 792, 793] (by decide +kernel) (by decide +kernel)
set_option maxRecDepth 20000 in
theorem gL_law_X7_chance : GoodIn wsL_law (wsV RL 84 RX7 yX7_chance wsX7_chance) := goodIn_app (goodIn_of _ (by decide +kernel)) ggL_law_X7_chance
set_option maxRecDepth 20000 in
theorem ggL_law_X6_wall : GoodIn wsL_law wsX6_wall := goodIn_r _ [645, 37, 208, 121, 122, 2, 123, 646, 647, 648, 36, 649, 224, 84, 85, 650, 651, 652, 653, 86, 752, 753, 754, 755, 756, 757, 758, 759, 822, 823, 824, 825, 826, 827, 828, 829, 830] (by decide +kernel) (by decide +kernel)
set_option maxRecDepth 20000 in
theorem gL_law_X6_wall : GoodIn wsL_law (wsV RL 85 RX6 yX6_wall wsX6_wall) := goodIn_app (goodIn_of _ (by decide +kernel)) ggL_law_X6_wall
set_option maxRecDepth 20000 in
theorem ggL_law_X7_wall : GoodIn wsL_law wsX7_wall := goodIn_r _ [657, 658, 659, 190, 233, 103, 131, 132, 5, 133, 760, 761, 762, 763, 764, 765, 766, 767, 768, 769, 770, 771, 772, 773, 774, 775, 776, 777, 778, 779, 780, 781, 782, 783, 784, 785, 786, 787, 788, 789, 790, 791, 792, 793] (by decide +kernel) (by decide +kernel)
set_option maxRecDepth 20000 in
theorem gL_law_X7_wall : GoodIn wsL_law (wsV RL 88 RX7 yX7_wall wsX7_wall) := goodIn_app (goodIn_of _ (by decide +kernel)) ggL_law_X7_wall
set_option maxRecDepth 20000 in
theorem ggL_law_X6_raze : GoodIn wsL_law wsX6_raze := goodIn_r _ [663, 37, 208, 752, 753, 754, 755, 756, 757, 758, 759, 822, 823, 824, 825, 826, 827, 828, 829, 830] (by decide +kernel) (by decide +kernel)
set_option maxRecDepth 20000 in
theorem gL_law_X6_raze : GoodIn wsL_law (wsV RL 89 RX6 yX6_raze wsX6_raze) := goodIn_app (goodIn_of _ (by decide +kernel)) ggL_law_X6_raze
set_option maxRecDepth 20000 in
theorem ggL_law_X7_raze : GoodIn wsL_law wsX7_raze := goodIn_r _ [667, 233, 760, 761, 762, 763, 764, 765, 766, 767, 768, 769, 770, 771, 772, 773, 774, 775, 776, 777, 778, 779, 780, 781, 782, 783, 784, 785, 786, 787, 788, 789, 790, 791, 792, 793] (by decide +kernel) (by decide +kernel)
set_option maxRecDepth 20000 in
theorem gL_law_X7_raze : GoodIn wsL_law (wsV RL 93 RX7 yX7_raze wsX7_raze) := goodIn_app (goodIn_of _ (by decide +kernel)) ggL_law_X7_raze
set_option maxRecDepth 20000 in
theorem ggL_law_X6_board : GoodIn wsL_law wsX6_board := goodIn_r _ [671, 37, 672, 673, 121, 122, 2, 123, 674, 675, 676, 36, 677, 88, 90, 678, 679, 680, 681, 682, 55, 683, 684, 685, 686, 687, 224, 86, 84, 85, 688, 689, 690, 691, 692, 693, 694, 695, 696, 697, 698, 89, 699, 700, 403, 404, 405, 701, 702, 703, 704, 705, 706, 707, 708, 709, 710, 711, 712, 713, 714, 715, 716, 717, 718, 719, 720, 721, 227, 722, 225, 226, 228, 752, 753, 754, 755, 756, 757, 758, 759, 822, 823, 824, 825, 826, 827, 828, 829, 830] (by decide +kernel) (by decide +kernel)
set_option maxRecDepth 20000 in
theorem gL_law_X6_board : GoodIn wsL_law (wsV RL 94 RX6 yX6_board wsX6_board) := goodIn_app (goodIn_of _ (by decide +kernel)) ggL_law_X6_board
set_option maxRecDepth 20000 in
theorem ggL_law_X7_board : GoodIn wsL_law wsX7_board := goodIn_r _ [726, 727, 111, 728, 729, 131, 132, 5, 133, 730, 731, 732, 733, 734, 735, 736, 737, 738, 739, 740, 233, 103, 741, 742, 743, 744, 745, 746, 747, 748, 749, 750, 751, 760, 761, 762, 763, 764, 765, 766, 767, 768, 769, 770, 771, 772, 773, 774, 775, 776, 777, 778, 779, 780, 781, 782, 783, 784, 785, 786, 787, 788, 789, 790, 791, 792, 793] (by decide +kernel) (by decide +kernel)
set_option maxRecDepth 20000 in
theorem gL_law_X7_board : GoodIn wsL_law (wsV RL 97 RX7 yX7_board wsX7_board) := goodIn_app (goodIn_of _ (by decide +kernel)) ggL_law_X7_board
theorem dL_law_0 : decode cL_law 0 = .ok (.new 7, 3) := by decide +kernel
theorem dL_law_3 : decode cL_law 3 = .ok (.dup, 1) := by decide +kernel
theorem dL_law_4 : decode cL_law 4 = .ok (.invokespecial 9, 3) := by decide +kernel
theorem dL_law_7 : decode cL_law 7 = .ok (.astore_n 1, 1) := by decide +kernel
theorem dL_law_8 : decode cL_law 8 = .ok (.new 10, 3) := by decide +kernel
theorem dL_law_11 : decode cL_law 11 = .ok (.dup, 1) := by decide +kernel
theorem dL_law_12 : decode cL_law 12 = .ok (.invokespecial 12, 3) := by decide +kernel
theorem dL_law_15 : decode cL_law 15 = .ok (.astore_n 2, 1) := by decide +kernel
theorem dL_law_16 : decode cL_law 16 = .ok (.iconst 0, 1) := by decide +kernel
theorem dL_law_17 : decode cL_law 17 = .ok (.istore_n 3, 1) := by decide +kernel
theorem dL_law_18 : decode cL_law 18 = .ok (.iload_n 3, 1) := by decide +kernel
theorem dL_law_19 : decode cL_law 19 = .ok (.aload_n 0, 1) := by decide +kernel
theorem dL_law_20 : decode cL_law 20 = .ok (.arraylength, 1) := by decide +kernel
theorem dL_law_21 : decode cL_law 21 = .ok (.bipush 7, 2) := by decide +kernel
theorem dL_law_23 : decode cL_law 23 = .ok (.isub, 1) := by decide +kernel
theorem dL_law_24 : decode cL_law 24 = .ok (.if_icmp .gt 793, 3) := by decide +kernel
theorem dL_law_27 : decode cL_law 27 = .ok (.aload_n 0, 1) := by decide +kernel
theorem dL_law_28 : decode cL_law 28 = .ok (.iload_n 3, 1) := by decide +kernel
theorem dL_law_29 : decode cL_law 29 = .ok (.iaload, 1) := by decide +kernel
theorem dL_law_30 : decode cL_law 30 = .ok (.bipush 31, 2) := by decide +kernel
theorem dL_law_32 : decode cL_law 32 = .ok (.iand, 1) := by decide +kernel
theorem dL_law_33 : decode cL_law 33 = .ok (.tableswitch 778 0 19 #[95, 118, 151, 194, 227, 260, 283, 316, 349, 382, 415, 438, 471, 514, 557, 580, 623, 699, 742, 755], 95) := by decide +kernel
theorem dL_law_128 : decode cL_law 128 = .ok (.aload_n 1, 1) := by decide +kernel
theorem dL_law_129 : decode cL_law 129 = .ok (.aload_n 0, 1) := by decide +kernel
theorem dL_law_130 : decode cL_law 130 = .ok (.iload_n 3, 1) := by decide +kernel
theorem dL_law_131 : decode cL_law 131 = .ok (.iconst 1, 1) := by decide +kernel
theorem dL_law_132 : decode cL_law 132 = .ok (.iadd, 1) := by decide +kernel
theorem dL_law_133 : decode cL_law 133 = .ok (.iaload, 1) := by decide +kernel
theorem dL_law_134 : decode cL_law 134 = .ok (.invokevirtual 13, 3) := by decide +kernel
theorem dL_law_137 : decode cL_law 137 = .ok (.aload_n 2, 1) := by decide +kernel
theorem dL_law_138 : decode cL_law 138 = .ok (.aload_n 0, 1) := by decide +kernel
theorem dL_law_139 : decode cL_law 139 = .ok (.iload_n 3, 1) := by decide +kernel
theorem dL_law_140 : decode cL_law 140 = .ok (.iconst 1, 1) := by decide +kernel
theorem dL_law_141 : decode cL_law 141 = .ok (.iadd, 1) := by decide +kernel
theorem dL_law_142 : decode cL_law 142 = .ok (.iaload, 1) := by decide +kernel
theorem dL_law_143 : decode cL_law 143 = .ok (.invokevirtual 17, 3) := by decide +kernel
theorem dL_law_146 : decode cL_law 146 = .ok (.if_icmp .eq 665, 3) := by decide +kernel
theorem dL_law_149 : decode cL_law 149 = .ok (.iconst 0, 1) := by decide +kernel
theorem dL_law_150 : decode cL_law 150 = .ok (.ireturn, 1) := by decide +kernel
theorem dL_law_151 : decode cL_law 151 = .ok (.aload_n 1, 1) := by decide +kernel
theorem dL_law_152 : decode cL_law 152 = .ok (.aload_n 0, 1) := by decide +kernel
theorem dL_law_153 : decode cL_law 153 = .ok (.iload_n 3, 1) := by decide +kernel
theorem dL_law_154 : decode cL_law 154 = .ok (.iconst 1, 1) := by decide +kernel
theorem dL_law_155 : decode cL_law 155 = .ok (.iadd, 1) := by decide +kernel
theorem dL_law_156 : decode cL_law 156 = .ok (.iaload, 1) := by decide +kernel
theorem dL_law_157 : decode cL_law 157 = .ok (.aload_n 0, 1) := by decide +kernel
theorem dL_law_158 : decode cL_law 158 = .ok (.iload_n 3, 1) := by decide +kernel
theorem dL_law_159 : decode cL_law 159 = .ok (.iconst 2, 1) := by decide +kernel
theorem dL_law_160 : decode cL_law 160 = .ok (.iadd, 1) := by decide +kernel
theorem dL_law_161 : decode cL_law 161 = .ok (.iaload, 1) := by decide +kernel
theorem dL_law_162 : decode cL_law 162 = .ok (.invokevirtual 18, 3) := by decide +kernel
theorem dL_law_165 : decode cL_law 165 = .ok (.aload_n 2, 1) := by decide +kernel
theorem dL_law_166 : decode cL_law 166 = .ok (.aload_n 0, 1) := by decide +kernel
theorem dL_law_167 : decode cL_law 167 = .ok (.iload_n 3, 1) := by decide +kernel
theorem dL_law_168 : decode cL_law 168 = .ok (.iconst 1, 1) := by decide +kernel
theorem dL_law_169 : decode cL_law 169 = .ok (.iadd, 1) := by decide +kernel
theorem dL_law_170 : decode cL_law 170 = .ok (.iaload, 1) := by decide +kernel
theorem dL_law_171 : decode cL_law 171 = .ok (.aload_n 0, 1) := by decide +kernel
theorem dL_law_172 : decode cL_law 172 = .ok (.iload_n 3, 1) := by decide +kernel
theorem dL_law_173 : decode cL_law 173 = .ok (.iconst 2, 1) := by decide +kernel
theorem dL_law_174 : decode cL_law 174 = .ok (.iadd, 1) := by decide +kernel
theorem dL_law_175 : decode cL_law 175 = .ok (.iaload, 1) := by decide +kernel
theorem dL_law_176 : decode cL_law 176 = .ok (.invokevirtual 22, 3) := by decide +kernel
theorem dL_law_179 : decode cL_law 179 = .ok (.if_icmp .eq 632, 3) := by decide +kernel
theorem dL_law_182 : decode cL_law 182 = .ok (.iconst 0, 1) := by decide +kernel
theorem dL_law_183 : decode cL_law 183 = .ok (.ireturn, 1) := by decide +kernel
theorem dL_law_184 : decode cL_law 184 = .ok (.aload_n 1, 1) := by decide +kernel
theorem dL_law_185 : decode cL_law 185 = .ok (.aload_n 0, 1) := by decide +kernel
theorem dL_law_186 : decode cL_law 186 = .ok (.iload_n 3, 1) := by decide +kernel
theorem dL_law_187 : decode cL_law 187 = .ok (.iconst 1, 1) := by decide +kernel
theorem dL_law_188 : decode cL_law 188 = .ok (.iadd, 1) := by decide +kernel
theorem dL_law_189 : decode cL_law 189 = .ok (.iaload, 1) := by decide +kernel
theorem dL_law_190 : decode cL_law 190 = .ok (.aload_n 0, 1) := by decide +kernel
theorem dL_law_191 : decode cL_law 191 = .ok (.iload_n 3, 1) := by decide +kernel
theorem dL_law_192 : decode cL_law 192 = .ok (.iconst 2, 1) := by decide +kernel
theorem dL_law_193 : decode cL_law 193 = .ok (.iadd, 1) := by decide +kernel
theorem dL_law_194 : decode cL_law 194 = .ok (.iaload, 1) := by decide +kernel
theorem dL_law_195 : decode cL_law 195 = .ok (.aload_n 0, 1) := by decide +kernel
theorem dL_law_196 : decode cL_law 196 = .ok (.iload_n 3, 1) := by decide +kernel
theorem dL_law_197 : decode cL_law 197 = .ok (.iconst 3, 1) := by decide +kernel
theorem dL_law_198 : decode cL_law 198 = .ok (.iadd, 1) := by decide +kernel
theorem dL_law_199 : decode cL_law 199 = .ok (.iaload, 1) := by decide +kernel
theorem dL_law_200 : decode cL_law 200 = .ok (.invokevirtual 23, 3) := by decide +kernel
theorem dL_law_203 : decode cL_law 203 = .ok (.aload_n 2, 1) := by decide +kernel
theorem dL_law_204 : decode cL_law 204 = .ok (.aload_n 0, 1) := by decide +kernel
theorem dL_law_205 : decode cL_law 205 = .ok (.iload_n 3, 1) := by decide +kernel
theorem dL_law_206 : decode cL_law 206 = .ok (.iconst 1, 1) := by decide +kernel
theorem dL_law_207 : decode cL_law 207 = .ok (.iadd, 1) := by decide +kernel
theorem dL_law_208 : decode cL_law 208 = .ok (.iaload, 1) := by decide +kernel
theorem dL_law_209 : decode cL_law 209 = .ok (.aload_n 0, 1) := by decide +kernel
theorem dL_law_210 : decode cL_law 210 = .ok (.iload_n 3, 1) := by decide +kernel
theorem dL_law_211 : decode cL_law 211 = .ok (.iconst 2, 1) := by decide +kernel
theorem dL_law_212 : decode cL_law 212 = .ok (.iadd, 1) := by decide +kernel
theorem dL_law_213 : decode cL_law 213 = .ok (.iaload, 1) := by decide +kernel
theorem dL_law_214 : decode cL_law 214 = .ok (.aload_n 0, 1) := by decide +kernel
theorem dL_law_215 : decode cL_law 215 = .ok (.iload_n 3, 1) := by decide +kernel
theorem dL_law_216 : decode cL_law 216 = .ok (.iconst 3, 1) := by decide +kernel
theorem dL_law_217 : decode cL_law 217 = .ok (.iadd, 1) := by decide +kernel
theorem dL_law_218 : decode cL_law 218 = .ok (.iaload, 1) := by decide +kernel
theorem dL_law_219 : decode cL_law 219 = .ok (.invokevirtual 27, 3) := by decide +kernel
theorem dL_law_222 : decode cL_law 222 = .ok (.if_icmp .eq 589, 3) := by decide +kernel
theorem dL_law_225 : decode cL_law 225 = .ok (.iconst 0, 1) := by decide +kernel
theorem dL_law_226 : decode cL_law 226 = .ok (.ireturn, 1) := by decide +kernel
theorem dL_law_227 : decode cL_law 227 = .ok (.aload_n 1, 1) := by decide +kernel
theorem dL_law_228 : decode cL_law 228 = .ok (.aload_n 0, 1) := by decide +kernel
theorem dL_law_229 : decode cL_law 229 = .ok (.iload_n 3, 1) := by decide +kernel
theorem dL_law_230 : decode cL_law 230 = .ok (.iconst 1, 1) := by decide +kernel
theorem dL_law_231 : decode cL_law 231 = .ok (.iadd, 1) := by decide +kernel
theorem dL_law_232 : decode cL_law 232 = .ok (.iaload, 1) := by decide +kernel
theorem dL_law_233 : decode cL_law 233 = .ok (.aload_n 0, 1) := by decide +kernel
theorem dL_law_234 : decode cL_law 234 = .ok (.iload_n 3, 1) := by decide +kernel
theorem dL_law_235 : decode cL_law 235 = .ok (.iconst 2, 1) := by decide +kernel
theorem dL_law_236 : decode cL_law 236 = .ok (.iadd, 1) := by decide +kernel
theorem dL_law_237 : decode cL_law 237 = .ok (.iaload, 1) := by decide +kernel
theorem dL_law_238 : decode cL_law 238 = .ok (.invokevirtual 28, 3) := by decide +kernel
theorem dL_law_241 : decode cL_law 241 = .ok (.aload_n 2, 1) := by decide +kernel
theorem dL_law_242 : decode cL_law 242 = .ok (.aload_n 0, 1) := by decide +kernel
theorem dL_law_243 : decode cL_law 243 = .ok (.iload_n 3, 1) := by decide +kernel
theorem dL_law_244 : decode cL_law 244 = .ok (.iconst 1, 1) := by decide +kernel
theorem dL_law_245 : decode cL_law 245 = .ok (.iadd, 1) := by decide +kernel
theorem dL_law_246 : decode cL_law 246 = .ok (.iaload, 1) := by decide +kernel
theorem dL_law_247 : decode cL_law 247 = .ok (.aload_n 0, 1) := by decide +kernel
theorem dL_law_248 : decode cL_law 248 = .ok (.iload_n 3, 1) := by decide +kernel
theorem dL_law_249 : decode cL_law 249 = .ok (.iconst 2, 1) := by decide +kernel
theorem dL_law_250 : decode cL_law 250 = .ok (.iadd, 1) := by decide +kernel
theorem dL_law_251 : decode cL_law 251 = .ok (.iaload, 1) := by decide +kernel
theorem dL_law_252 : decode cL_law 252 = .ok (.invokevirtual 31, 3) := by decide +kernel
theorem dL_law_255 : decode cL_law 255 = .ok (.if_icmp .eq 556, 3) := by decide +kernel
theorem dL_law_258 : decode cL_law 258 = .ok (.iconst 0, 1) := by decide +kernel
theorem dL_law_259 : decode cL_law 259 = .ok (.ireturn, 1) := by decide +kernel
theorem dL_law_260 : decode cL_law 260 = .ok (.aload_n 1, 1) := by decide +kernel
theorem dL_law_261 : decode cL_law 261 = .ok (.aload_n 0, 1) := by decide +kernel
theorem dL_law_262 : decode cL_law 262 = .ok (.iload_n 3, 1) := by decide +kernel
theorem dL_law_263 : decode cL_law 263 = .ok (.iconst 1, 1) := by decide +kernel
theorem dL_law_264 : decode cL_law 264 = .ok (.iadd, 1) := by decide +kernel
theorem dL_law_265 : decode cL_law 265 = .ok (.iaload, 1) := by decide +kernel
theorem dL_law_266 : decode cL_law 266 = .ok (.aload_n 0, 1) := by decide +kernel
theorem dL_law_267 : decode cL_law 267 = .ok (.iload_n 3, 1) := by decide +kernel
theorem dL_law_268 : decode cL_law 268 = .ok (.iconst 2, 1) := by decide +kernel
theorem dL_law_269 : decode cL_law 269 = .ok (.iadd, 1) := by decide +kernel
theorem dL_law_270 : decode cL_law 270 = .ok (.iaload, 1) := by decide +kernel
theorem dL_law_271 : decode cL_law 271 = .ok (.invokevirtual 32, 3) := by decide +kernel
theorem dL_law_274 : decode cL_law 274 = .ok (.aload_n 2, 1) := by decide +kernel
theorem dL_law_275 : decode cL_law 275 = .ok (.aload_n 0, 1) := by decide +kernel
theorem dL_law_276 : decode cL_law 276 = .ok (.iload_n 3, 1) := by decide +kernel
theorem dL_law_277 : decode cL_law 277 = .ok (.iconst 1, 1) := by decide +kernel
theorem dL_law_278 : decode cL_law 278 = .ok (.iadd, 1) := by decide +kernel
theorem dL_law_279 : decode cL_law 279 = .ok (.iaload, 1) := by decide +kernel
theorem dL_law_280 : decode cL_law 280 = .ok (.aload_n 0, 1) := by decide +kernel
theorem dL_law_281 : decode cL_law 281 = .ok (.iload_n 3, 1) := by decide +kernel
theorem dL_law_282 : decode cL_law 282 = .ok (.iconst 2, 1) := by decide +kernel
theorem dL_law_283 : decode cL_law 283 = .ok (.iadd, 1) := by decide +kernel
theorem dL_law_284 : decode cL_law 284 = .ok (.iaload, 1) := by decide +kernel
theorem dL_law_285 : decode cL_law 285 = .ok (.invokevirtual 35, 3) := by decide +kernel
theorem dL_law_288 : decode cL_law 288 = .ok (.if_icmp .eq 523, 3) := by decide +kernel
theorem dL_law_291 : decode cL_law 291 = .ok (.iconst 0, 1) := by decide +kernel
theorem dL_law_292 : decode cL_law 292 = .ok (.ireturn, 1) := by decide +kernel
theorem dL_law_293 : decode cL_law 293 = .ok (.aload_n 1, 1) := by decide +kernel
theorem dL_law_294 : decode cL_law 294 = .ok (.aload_n 0, 1) := by decide +kernel
theorem dL_law_295 : decode cL_law 295 = .ok (.iload_n 3, 1) := by decide +kernel
theorem dL_law_296 : decode cL_law 296 = .ok (.iconst 1, 1) := by decide +kernel
theorem dL_law_297 : decode cL_law 297 = .ok (.iadd, 1) := by decide +kernel
theorem dL_law_298 : decode cL_law 298 = .ok (.iaload, 1) := by decide +kernel
theorem dL_law_299 : decode cL_law 299 = .ok (.invokevirtual 36, 3) := by decide +kernel
theorem dL_law_302 : decode cL_law 302 = .ok (.aload_n 2, 1) := by decide +kernel
theorem dL_law_303 : decode cL_law 303 = .ok (.aload_n 0, 1) := by decide +kernel
theorem dL_law_304 : decode cL_law 304 = .ok (.iload_n 3, 1) := by decide +kernel
theorem dL_law_305 : decode cL_law 305 = .ok (.iconst 1, 1) := by decide +kernel
theorem dL_law_306 : decode cL_law 306 = .ok (.iadd, 1) := by decide +kernel
theorem dL_law_307 : decode cL_law 307 = .ok (.iaload, 1) := by decide +kernel
theorem dL_law_308 : decode cL_law 308 = .ok (.invokevirtual 39, 3) := by decide +kernel
theorem dL_law_311 : decode cL_law 311 = .ok (.if_icmp .eq 500, 3) := by decide +kernel
theorem dL_law_314 : decode cL_law 314 = .ok (.iconst 0, 1) := by decide +kernel
theorem dL_law_315 : decode cL_law 315 = .ok (.ireturn, 1) := by decide +kernel
theorem dL_law_316 : decode cL_law 316 = .ok (.aload_n 1, 1) := by decide +kernel
theorem dL_law_317 : decode cL_law 317 = .ok (.aload_n 0, 1) := by decide +kernel
theorem dL_law_318 : decode cL_law 318 = .ok (.iload_n 3, 1) := by decide +kernel
theorem dL_law_319 : decode cL_law 319 = .ok (.iconst 1, 1) := by decide +kernel
theorem dL_law_320 : decode cL_law 320 = .ok (.iadd, 1) := by decide +kernel
theorem dL_law_321 : decode cL_law 321 = .ok (.iaload, 1) := by decide +kernel
theorem dL_law_322 : decode cL_law 322 = .ok (.aload_n 0, 1) := by decide +kernel
theorem dL_law_323 : decode cL_law 323 = .ok (.iload_n 3, 1) := by decide +kernel
theorem dL_law_324 : decode cL_law 324 = .ok (.iconst 2, 1) := by decide +kernel
theorem dL_law_325 : decode cL_law 325 = .ok (.iadd, 1) := by decide +kernel
theorem dL_law_326 : decode cL_law 326 = .ok (.iaload, 1) := by decide +kernel
theorem dL_law_327 : decode cL_law 327 = .ok (.invokevirtual 40, 3) := by decide +kernel
theorem dL_law_330 : decode cL_law 330 = .ok (.aload_n 2, 1) := by decide +kernel
theorem dL_law_331 : decode cL_law 331 = .ok (.aload_n 0, 1) := by decide +kernel
theorem dL_law_332 : decode cL_law 332 = .ok (.iload_n 3, 1) := by decide +kernel
theorem dL_law_333 : decode cL_law 333 = .ok (.iconst 1, 1) := by decide +kernel
theorem dL_law_334 : decode cL_law 334 = .ok (.iadd, 1) := by decide +kernel
theorem dL_law_335 : decode cL_law 335 = .ok (.iaload, 1) := by decide +kernel
theorem dL_law_336 : decode cL_law 336 = .ok (.aload_n 0, 1) := by decide +kernel
theorem dL_law_337 : decode cL_law 337 = .ok (.iload_n 3, 1) := by decide +kernel
theorem dL_law_338 : decode cL_law 338 = .ok (.iconst 2, 1) := by decide +kernel
theorem dL_law_339 : decode cL_law 339 = .ok (.iadd, 1) := by decide +kernel
theorem dL_law_340 : decode cL_law 340 = .ok (.iaload, 1) := by decide +kernel
theorem dL_law_341 : decode cL_law 341 = .ok (.invokevirtual 43, 3) := by decide +kernel
theorem dL_law_344 : decode cL_law 344 = .ok (.if_icmp .eq 467, 3) := by decide +kernel
theorem dL_law_347 : decode cL_law 347 = .ok (.iconst 0, 1) := by decide +kernel
theorem dL_law_348 : decode cL_law 348 = .ok (.ireturn, 1) := by decide +kernel
theorem dL_law_349 : decode cL_law 349 = .ok (.aload_n 1, 1) := by decide +kernel
theorem dL_law_350 : decode cL_law 350 = .ok (.aload_n 0, 1) := by decide +kernel
theorem dL_law_351 : decode cL_law 351 = .ok (.iload_n 3, 1) := by decide +kernel
theorem dL_law_352 : decode cL_law 352 = .ok (.iconst 1, 1) := by decide +kernel
theorem dL_law_353 : decode cL_law 353 = .ok (.iadd, 1) := by decide +kernel
theorem dL_law_354 : decode cL_law 354 = .ok (.iaload, 1) := by decide +kernel
theorem dL_law_355 : decode cL_law 355 = .ok (.aload_n 0, 1) := by decide +kernel
theorem dL_law_356 : decode cL_law 356 = .ok (.iload_n 3, 1) := by decide +kernel
theorem dL_law_357 : decode cL_law 357 = .ok (.iconst 2, 1) := by decide +kernel
theorem dL_law_358 : decode cL_law 358 = .ok (.iadd, 1) := by decide +kernel
theorem dL_law_359 : decode cL_law 359 = .ok (.iaload, 1) := by decide +kernel
theorem dL_law_360 : decode cL_law 360 = .ok (.invokevirtual 44, 3) := by decide +kernel
theorem dL_law_363 : decode cL_law 363 = .ok (.aload_n 2, 1) := by decide +kernel
theorem dL_law_364 : decode cL_law 364 = .ok (.aload_n 0, 1) := by decide +kernel
theorem dL_law_365 : decode cL_law 365 = .ok (.iload_n 3, 1) := by decide +kernel
theorem dL_law_366 : decode cL_law 366 = .ok (.iconst 1, 1) := by decide +kernel
theorem dL_law_367 : decode cL_law 367 = .ok (.iadd, 1) := by decide +kernel
theorem dL_law_368 : decode cL_law 368 = .ok (.iaload, 1) := by decide +kernel
theorem dL_law_369 : decode cL_law 369 = .ok (.aload_n 0, 1) := by decide +kernel
theorem dL_law_370 : decode cL_law 370 = .ok (.iload_n 3, 1) := by decide +kernel
theorem dL_law_371 : decode cL_law 371 = .ok (.iconst 2, 1) := by decide +kernel
theorem dL_law_372 : decode cL_law 372 = .ok (.iadd, 1) := by decide +kernel
theorem dL_law_373 : decode cL_law 373 = .ok (.iaload, 1) := by decide +kernel
theorem dL_law_374 : decode cL_law 374 = .ok (.invokevirtual 47, 3) := by decide +kernel
theorem dL_law_377 : decode cL_law 377 = .ok (.if_icmp .eq 434, 3) := by decide +kernel
theorem dL_law_380 : decode cL_law 380 = .ok (.iconst 0, 1) := by decide +kernel
theorem dL_law_381 : decode cL_law 381 = .ok (.ireturn, 1) := by decide +kernel
theorem dL_law_382 : decode cL_law 382 = .ok (.aload_n 1, 1) := by decide +kernel
theorem dL_law_383 : decode cL_law 383 = .ok (.aload_n 0, 1) := by decide +kernel
theorem dL_law_384 : decode cL_law 384 = .ok (.iload_n 3, 1) := by decide +kernel
theorem dL_law_385 : decode cL_law 385 = .ok (.iconst 1, 1) := by decide +kernel
theorem dL_law_386 : decode cL_law 386 = .ok (.iadd, 1) := by decide +kernel
theorem dL_law_387 : decode cL_law 387 = .ok (.iaload, 1) := by decide +kernel
theorem dL_law_388 : decode cL_law 388 = .ok (.aload_n 0, 1) := by decide +kernel
theorem dL_law_389 : decode cL_law 389 = .ok (.iload_n 3, 1) := by decide +kernel
theorem dL_law_390 : decode cL_law 390 = .ok (.iconst 2, 1) := by decide +kernel
theorem dL_law_391 : decode cL_law 391 = .ok (.iadd, 1) := by decide +kernel
theorem dL_law_392 : decode cL_law 392 = .ok (.iaload, 1) := by decide +kernel
theorem dL_law_393 : decode cL_law 393 = .ok (.invokevirtual 48, 3) := by decide +kernel
theorem dL_law_396 : decode cL_law 396 = .ok (.aload_n 2, 1) := by decide +kernel
theorem dL_law_397 : decode cL_law 397 = .ok (.aload_n 0, 1) := by decide +kernel
theorem dL_law_398 : decode cL_law 398 = .ok (.iload_n 3, 1) := by decide +kernel
theorem dL_law_399 : decode cL_law 399 = .ok (.iconst 1, 1) := by decide +kernel
theorem dL_law_400 : decode cL_law 400 = .ok (.iadd, 1) := by decide +kernel
theorem dL_law_401 : decode cL_law 401 = .ok (.iaload, 1) := by decide +kernel
theorem dL_law_402 : decode cL_law 402 = .ok (.aload_n 0, 1) := by decide +kernel
theorem dL_law_403 : decode cL_law 403 = .ok (.iload_n 3, 1) := by decide +kernel
theorem dL_law_404 : decode cL_law 404 = .ok (.iconst 2, 1) := by decide +kernel
theorem dL_law_405 : decode cL_law 405 = .ok (.iadd, 1) := by decide +kernel
theorem dL_law_406 : decode cL_law 406 = .ok (.iaload, 1) := by decide +kernel
theorem dL_law_407 : decode cL_law 407 = .ok (.invokevirtual 51, 3) := by decide +kernel
theorem dL_law_410 : decode cL_law 410 = .ok (.if_icmp .eq 401, 3) := by decide +kernel
theorem dL_law_413 : decode cL_law 413 = .ok (.iconst 0, 1) := by decide +kernel
theorem dL_law_414 : decode cL_law 414 = .ok (.ireturn, 1) := by decide +kernel
theorem dL_law_415 : decode cL_law 415 = .ok (.aload_n 1, 1) := by decide +kernel
theorem dL_law_416 : decode cL_law 416 = .ok (.aload_n 0, 1) := by decide +kernel
theorem dL_law_417 : decode cL_law 417 = .ok (.iload_n 3, 1) := by decide +kernel
theorem dL_law_418 : decode cL_law 418 = .ok (.iconst 1, 1) := by decide +kernel
theorem dL_law_419 : decode cL_law 419 = .ok (.iadd, 1) := by decide +kernel
theorem dL_law_420 : decode cL_law 420 = .ok (.iaload, 1) := by decide +kernel
theorem dL_law_421 : decode cL_law 421 = .ok (.aload_n 0, 1) := by decide +kernel
theorem dL_law_422 : decode cL_law 422 = .ok (.iload_n 3, 1) := by decide +kernel
theorem dL_law_423 : decode cL_law 423 = .ok (.iconst 2, 1) := by decide +kernel
theorem dL_law_424 : decode cL_law 424 = .ok (.iadd, 1) := by decide +kernel
theorem dL_law_425 : decode cL_law 425 = .ok (.iaload, 1) := by decide +kernel
theorem dL_law_426 : decode cL_law 426 = .ok (.invokevirtual 52, 3) := by decide +kernel
theorem dL_law_429 : decode cL_law 429 = .ok (.aload_n 2, 1) := by decide +kernel
theorem dL_law_430 : decode cL_law 430 = .ok (.aload_n 0, 1) := by decide +kernel
theorem dL_law_431 : decode cL_law 431 = .ok (.iload_n 3, 1) := by decide +kernel
theorem dL_law_432 : decode cL_law 432 = .ok (.iconst 1, 1) := by decide +kernel
theorem dL_law_433 : decode cL_law 433 = .ok (.iadd, 1) := by decide +kernel
theorem dL_law_434 : decode cL_law 434 = .ok (.iaload, 1) := by decide +kernel
theorem dL_law_435 : decode cL_law 435 = .ok (.aload_n 0, 1) := by decide +kernel
theorem dL_law_436 : decode cL_law 436 = .ok (.iload_n 3, 1) := by decide +kernel
theorem dL_law_437 : decode cL_law 437 = .ok (.iconst 2, 1) := by decide +kernel
theorem dL_law_438 : decode cL_law 438 = .ok (.iadd, 1) := by decide +kernel
theorem dL_law_439 : decode cL_law 439 = .ok (.iaload, 1) := by decide +kernel
theorem dL_law_440 : decode cL_law 440 = .ok (.invokevirtual 55, 3) := by decide +kernel
theorem dL_law_443 : decode cL_law 443 = .ok (.if_icmp .eq 368, 3) := by decide +kernel
theorem dL_law_446 : decode cL_law 446 = .ok (.iconst 0, 1) := by decide +kernel
theorem dL_law_447 : decode cL_law 447 = .ok (.ireturn, 1) := by decide +kernel
theorem dL_law_448 : decode cL_law 448 = .ok (.aload_n 1, 1) := by decide +kernel
theorem dL_law_449 : decode cL_law 449 = .ok (.aload_n 0, 1) := by decide +kernel
theorem dL_law_450 : decode cL_law 450 = .ok (.iload_n 3, 1) := by decide +kernel
theorem dL_law_451 : decode cL_law 451 = .ok (.iconst 1, 1) := by decide +kernel
theorem dL_law_452 : decode cL_law 452 = .ok (.iadd, 1) := by decide +kernel
theorem dL_law_453 : decode cL_law 453 = .ok (.iaload, 1) := by decide +kernel
theorem dL_law_454 : decode cL_law 454 = .ok (.invokevirtual 56, 3) := by decide +kernel
theorem dL_law_457 : decode cL_law 457 = .ok (.aload_n 2, 1) := by decide +kernel
theorem dL_law_458 : decode cL_law 458 = .ok (.aload_n 0, 1) := by decide +kernel
theorem dL_law_459 : decode cL_law 459 = .ok (.iload_n 3, 1) := by decide +kernel
theorem dL_law_460 : decode cL_law 460 = .ok (.iconst 1, 1) := by decide +kernel
theorem dL_law_461 : decode cL_law 461 = .ok (.iadd, 1) := by decide +kernel
theorem dL_law_462 : decode cL_law 462 = .ok (.iaload, 1) := by decide +kernel
theorem dL_law_463 : decode cL_law 463 = .ok (.invokevirtual 59, 3) := by decide +kernel
theorem dL_law_466 : decode cL_law 466 = .ok (.if_icmp .eq 345, 3) := by decide +kernel
theorem dL_law_469 : decode cL_law 469 = .ok (.iconst 0, 1) := by decide +kernel
theorem dL_law_470 : decode cL_law 470 = .ok (.ireturn, 1) := by decide +kernel
theorem dL_law_471 : decode cL_law 471 = .ok (.aload_n 1, 1) := by decide +kernel
theorem dL_law_472 : decode cL_law 472 = .ok (.aload_n 0, 1) := by decide +kernel
theorem dL_law_473 : decode cL_law 473 = .ok (.iload_n 3, 1) := by decide +kernel
theorem dL_law_474 : decode cL_law 474 = .ok (.iconst 1, 1) := by decide +kernel
theorem dL_law_475 : decode cL_law 475 = .ok (.iadd, 1) := by decide +kernel
theorem dL_law_476 : decode cL_law 476 = .ok (.iaload, 1) := by decide +kernel
theorem dL_law_477 : decode cL_law 477 = .ok (.aload_n 0, 1) := by decide +kernel
theorem dL_law_478 : decode cL_law 478 = .ok (.iload_n 3, 1) := by decide +kernel
theorem dL_law_479 : decode cL_law 479 = .ok (.iconst 2, 1) := by decide +kernel
theorem dL_law_480 : decode cL_law 480 = .ok (.iadd, 1) := by decide +kernel
theorem dL_law_481 : decode cL_law 481 = .ok (.iaload, 1) := by decide +kernel
theorem dL_law_482 : decode cL_law 482 = .ok (.invokevirtual 60, 3) := by decide +kernel
theorem dL_law_485 : decode cL_law 485 = .ok (.aload_n 2, 1) := by decide +kernel
theorem dL_law_486 : decode cL_law 486 = .ok (.aload_n 0, 1) := by decide +kernel
theorem dL_law_487 : decode cL_law 487 = .ok (.iload_n 3, 1) := by decide +kernel
theorem dL_law_488 : decode cL_law 488 = .ok (.iconst 1, 1) := by decide +kernel
theorem dL_law_489 : decode cL_law 489 = .ok (.iadd, 1) := by decide +kernel
theorem dL_law_490 : decode cL_law 490 = .ok (.iaload, 1) := by decide +kernel
theorem dL_law_491 : decode cL_law 491 = .ok (.aload_n 0, 1) := by decide +kernel
theorem dL_law_492 : decode cL_law 492 = .ok (.iload_n 3, 1) := by decide +kernel
theorem dL_law_493 : decode cL_law 493 = .ok (.iconst 2, 1) := by decide +kernel
theorem dL_law_494 : decode cL_law 494 = .ok (.iadd, 1) := by decide +kernel
theorem dL_law_495 : decode cL_law 495 = .ok (.iaload, 1) := by decide +kernel
theorem dL_law_496 : decode cL_law 496 = .ok (.invokevirtual 63, 3) := by decide +kernel
theorem dL_law_499 : decode cL_law 499 = .ok (.if_icmp .eq 312, 3) := by decide +kernel
theorem dL_law_502 : decode cL_law 502 = .ok (.iconst 0, 1) := by decide +kernel
theorem dL_law_503 : decode cL_law 503 = .ok (.ireturn, 1) := by decide +kernel
theorem dL_law_504 : decode cL_law 504 = .ok (.aload_n 1, 1) := by decide +kernel
theorem dL_law_505 : decode cL_law 505 = .ok (.aload_n 0, 1) := by decide +kernel
theorem dL_law_506 : decode cL_law 506 = .ok (.iload_n 3, 1) := by decide +kernel
theorem dL_law_507 : decode cL_law 507 = .ok (.iconst 1, 1) := by decide +kernel
theorem dL_law_508 : decode cL_law 508 = .ok (.iadd, 1) := by decide +kernel
theorem dL_law_509 : decode cL_law 509 = .ok (.iaload, 1) := by decide +kernel
theorem dL_law_510 : decode cL_law 510 = .ok (.aload_n 0, 1) := by decide +kernel
theorem dL_law_511 : decode cL_law 511 = .ok (.iload_n 3, 1) := by decide +kernel
theorem dL_law_512 : decode cL_law 512 = .ok (.iconst 2, 1) := by decide +kernel
theorem dL_law_513 : decode cL_law 513 = .ok (.iadd, 1) := by decide +kernel
theorem dL_law_514 : decode cL_law 514 = .ok (.iaload, 1) := by decide +kernel
theorem dL_law_515 : decode cL_law 515 = .ok (.aload_n 0, 1) := by decide +kernel
theorem dL_law_516 : decode cL_law 516 = .ok (.iload_n 3, 1) := by decide +kernel
theorem dL_law_517 : decode cL_law 517 = .ok (.iconst 3, 1) := by decide +kernel
theorem dL_law_518 : decode cL_law 518 = .ok (.iadd, 1) := by decide +kernel
theorem dL_law_519 : decode cL_law 519 = .ok (.iaload, 1) := by decide +kernel
theorem dL_law_520 : decode cL_law 520 = .ok (.invokevirtual 64, 3) := by decide +kernel
theorem dL_law_523 : decode cL_law 523 = .ok (.aload_n 2, 1) := by decide +kernel
theorem dL_law_524 : decode cL_law 524 = .ok (.aload_n 0, 1) := by decide +kernel
theorem dL_law_525 : decode cL_law 525 = .ok (.iload_n 3, 1) := by decide +kernel
theorem dL_law_526 : decode cL_law 526 = .ok (.iconst 1, 1) := by decide +kernel
theorem dL_law_527 : decode cL_law 527 = .ok (.iadd, 1) := by decide +kernel
theorem dL_law_528 : decode cL_law 528 = .ok (.iaload, 1) := by decide +kernel
theorem dL_law_529 : decode cL_law 529 = .ok (.aload_n 0, 1) := by decide +kernel
theorem dL_law_530 : decode cL_law 530 = .ok (.iload_n 3, 1) := by decide +kernel
theorem dL_law_531 : decode cL_law 531 = .ok (.iconst 2, 1) := by decide +kernel
theorem dL_law_532 : decode cL_law 532 = .ok (.iadd, 1) := by decide +kernel
theorem dL_law_533 : decode cL_law 533 = .ok (.iaload, 1) := by decide +kernel
theorem dL_law_534 : decode cL_law 534 = .ok (.aload_n 0, 1) := by decide +kernel
theorem dL_law_535 : decode cL_law 535 = .ok (.iload_n 3, 1) := by decide +kernel
theorem dL_law_536 : decode cL_law 536 = .ok (.iconst 3, 1) := by decide +kernel
theorem dL_law_537 : decode cL_law 537 = .ok (.iadd, 1) := by decide +kernel
theorem dL_law_538 : decode cL_law 538 = .ok (.iaload, 1) := by decide +kernel
theorem dL_law_539 : decode cL_law 539 = .ok (.invokevirtual 67, 3) := by decide +kernel
theorem dL_law_542 : decode cL_law 542 = .ok (.if_icmp .eq 269, 3) := by decide +kernel
theorem dL_law_545 : decode cL_law 545 = .ok (.iconst 0, 1) := by decide +kernel
theorem dL_law_546 : decode cL_law 546 = .ok (.ireturn, 1) := by decide +kernel
theorem dL_law_547 : decode cL_law 547 = .ok (.aload_n 1, 1) := by decide +kernel
theorem dL_law_548 : decode cL_law 548 = .ok (.aload_n 0, 1) := by decide +kernel
theorem dL_law_549 : decode cL_law 549 = .ok (.iload_n 3, 1) := by decide +kernel
theorem dL_law_550 : decode cL_law 550 = .ok (.iconst 1, 1) := by decide +kernel
theorem dL_law_551 : decode cL_law 551 = .ok (.iadd, 1) := by decide +kernel
theorem dL_law_552 : decode cL_law 552 = .ok (.iaload, 1) := by decide +kernel
theorem dL_law_553 : decode cL_law 553 = .ok (.aload_n 0, 1) := by decide +kernel
theorem dL_law_554 : decode cL_law 554 = .ok (.iload_n 3, 1) := by decide +kernel
theorem dL_law_555 : decode cL_law 555 = .ok (.iconst 2, 1) := by decide +kernel
theorem dL_law_556 : decode cL_law 556 = .ok (.iadd, 1) := by decide +kernel
theorem dL_law_557 : decode cL_law 557 = .ok (.iaload, 1) := by decide +kernel
theorem dL_law_558 : decode cL_law 558 = .ok (.aload_n 0, 1) := by decide +kernel
theorem dL_law_559 : decode cL_law 559 = .ok (.iload_n 3, 1) := by decide +kernel
theorem dL_law_560 : decode cL_law 560 = .ok (.iconst 3, 1) := by decide +kernel
theorem dL_law_561 : decode cL_law 561 = .ok (.iadd, 1) := by decide +kernel
theorem dL_law_562 : decode cL_law 562 = .ok (.iaload, 1) := by decide +kernel
theorem dL_law_563 : decode cL_law 563 = .ok (.invokevirtual 68, 3) := by decide +kernel
theorem dL_law_566 : decode cL_law 566 = .ok (.aload_n 2, 1) := by decide +kernel
theorem dL_law_567 : decode cL_law 567 = .ok (.aload_n 0, 1) := by decide +kernel
theorem dL_law_568 : decode cL_law 568 = .ok (.iload_n 3, 1) := by decide +kernel
theorem dL_law_569 : decode cL_law 569 = .ok (.iconst 1, 1) := by decide +kernel
theorem dL_law_570 : decode cL_law 570 = .ok (.iadd, 1) := by decide +kernel
theorem dL_law_571 : decode cL_law 571 = .ok (.iaload, 1) := by decide +kernel
theorem dL_law_572 : decode cL_law 572 = .ok (.aload_n 0, 1) := by decide +kernel
theorem dL_law_573 : decode cL_law 573 = .ok (.iload_n 3, 1) := by decide +kernel
theorem dL_law_574 : decode cL_law 574 = .ok (.iconst 2, 1) := by decide +kernel
theorem dL_law_575 : decode cL_law 575 = .ok (.iadd, 1) := by decide +kernel
theorem dL_law_576 : decode cL_law 576 = .ok (.iaload, 1) := by decide +kernel
theorem dL_law_577 : decode cL_law 577 = .ok (.aload_n 0, 1) := by decide +kernel
theorem dL_law_578 : decode cL_law 578 = .ok (.iload_n 3, 1) := by decide +kernel
theorem dL_law_579 : decode cL_law 579 = .ok (.iconst 3, 1) := by decide +kernel
theorem dL_law_580 : decode cL_law 580 = .ok (.iadd, 1) := by decide +kernel
theorem dL_law_581 : decode cL_law 581 = .ok (.iaload, 1) := by decide +kernel
theorem dL_law_582 : decode cL_law 582 = .ok (.invokevirtual 71, 3) := by decide +kernel
theorem dL_law_585 : decode cL_law 585 = .ok (.if_icmp .eq 226, 3) := by decide +kernel
theorem dL_law_588 : decode cL_law 588 = .ok (.iconst 0, 1) := by decide +kernel
theorem dL_law_589 : decode cL_law 589 = .ok (.ireturn, 1) := by decide +kernel
theorem dL_law_590 : decode cL_law 590 = .ok (.aload_n 1, 1) := by decide +kernel
theorem dL_law_591 : decode cL_law 591 = .ok (.aload_n 0, 1) := by decide +kernel
theorem dL_law_592 : decode cL_law 592 = .ok (.iload_n 3, 1) := by decide +kernel
theorem dL_law_593 : decode cL_law 593 = .ok (.iconst 1, 1) := by decide +kernel
theorem dL_law_594 : decode cL_law 594 = .ok (.iadd, 1) := by decide +kernel
theorem dL_law_595 : decode cL_law 595 = .ok (.iaload, 1) := by decide +kernel
theorem dL_law_596 : decode cL_law 596 = .ok (.invokevirtual 72, 3) := by decide +kernel
theorem dL_law_599 : decode cL_law 599 = .ok (.aload_n 2, 1) := by decide +kernel
theorem dL_law_600 : decode cL_law 600 = .ok (.aload_n 0, 1) := by decide +kernel
theorem dL_law_601 : decode cL_law 601 = .ok (.iload_n 3, 1) := by decide +kernel
theorem dL_law_602 : decode cL_law 602 = .ok (.iconst 1, 1) := by decide +kernel
theorem dL_law_603 : decode cL_law 603 = .ok (.iadd, 1) := by decide +kernel
theorem dL_law_604 : decode cL_law 604 = .ok (.iaload, 1) := by decide +kernel
theorem dL_law_605 : decode cL_law 605 = .ok (.invokevirtual 75, 3) := by decide +kernel
theorem dL_law_608 : decode cL_law 608 = .ok (.if_icmp .eq 203, 3) := by decide +kernel
theorem dL_law_611 : decode cL_law 611 = .ok (.iconst 0, 1) := by decide +kernel
theorem dL_law_612 : decode cL_law 612 = .ok (.ireturn, 1) := by decide +kernel
theorem dL_law_613 : decode cL_law 613 = .ok (.aload_n 1, 1) := by decide +kernel
theorem dL_law_614 : decode cL_law 614 = .ok (.aload_n 0, 1) := by decide +kernel
theorem dL_law_615 : decode cL_law 615 = .ok (.iload_n 3, 1) := by decide +kernel
theorem dL_law_616 : decode cL_law 616 = .ok (.iconst 1, 1) := by decide +kernel
theorem dL_law_617 : decode cL_law 617 = .ok (.iadd, 1) := by decide +kernel
theorem dL_law_618 : decode cL_law 618 = .ok (.iaload, 1) := by decide +kernel
theorem dL_law_619 : decode cL_law 619 = .ok (.aload_n 0, 1) := by decide +kernel
theorem dL_law_620 : decode cL_law 620 = .ok (.iload_n 3, 1) := by decide +kernel
theorem dL_law_621 : decode cL_law 621 = .ok (.iconst 2, 1) := by decide +kernel
theorem dL_law_622 : decode cL_law 622 = .ok (.iadd, 1) := by decide +kernel
theorem dL_law_623 : decode cL_law 623 = .ok (.iaload, 1) := by decide +kernel
theorem dL_law_624 : decode cL_law 624 = .ok (.aload_n 0, 1) := by decide +kernel
theorem dL_law_625 : decode cL_law 625 = .ok (.iload_n 3, 1) := by decide +kernel
theorem dL_law_626 : decode cL_law 626 = .ok (.iconst 3, 1) := by decide +kernel
theorem dL_law_627 : decode cL_law 627 = .ok (.iadd, 1) := by decide +kernel
theorem dL_law_628 : decode cL_law 628 = .ok (.iaload, 1) := by decide +kernel
theorem dL_law_629 : decode cL_law 629 = .ok (.invokevirtual 76, 3) := by decide +kernel
theorem dL_law_632 : decode cL_law 632 = .ok (.aload_n 2, 1) := by decide +kernel
theorem dL_law_633 : decode cL_law 633 = .ok (.aload_n 0, 1) := by decide +kernel
theorem dL_law_634 : decode cL_law 634 = .ok (.iload_n 3, 1) := by decide +kernel
theorem dL_law_635 : decode cL_law 635 = .ok (.iconst 1, 1) := by decide +kernel
theorem dL_law_636 : decode cL_law 636 = .ok (.iadd, 1) := by decide +kernel
theorem dL_law_637 : decode cL_law 637 = .ok (.iaload, 1) := by decide +kernel
theorem dL_law_638 : decode cL_law 638 = .ok (.aload_n 0, 1) := by decide +kernel
theorem dL_law_639 : decode cL_law 639 = .ok (.iload_n 3, 1) := by decide +kernel
theorem dL_law_640 : decode cL_law 640 = .ok (.iconst 2, 1) := by decide +kernel
theorem dL_law_641 : decode cL_law 641 = .ok (.iadd, 1) := by decide +kernel
theorem dL_law_642 : decode cL_law 642 = .ok (.iaload, 1) := by decide +kernel
theorem dL_law_643 : decode cL_law 643 = .ok (.aload_n 0, 1) := by decide +kernel
theorem dL_law_644 : decode cL_law 644 = .ok (.iload_n 3, 1) := by decide +kernel
theorem dL_law_645 : decode cL_law 645 = .ok (.iconst 3, 1) := by decide +kernel
theorem dL_law_646 : decode cL_law 646 = .ok (.iadd, 1) := by decide +kernel
theorem dL_law_647 : decode cL_law 647 = .ok (.iaload, 1) := by decide +kernel
theorem dL_law_648 : decode cL_law 648 = .ok (.invokevirtual 79, 3) := by decide +kernel
theorem dL_law_651 : decode cL_law 651 = .ok (.if_icmp .eq 160, 3) := by decide +kernel
theorem dL_law_654 : decode cL_law 654 = .ok (.iconst 0, 1) := by decide +kernel
theorem dL_law_655 : decode cL_law 655 = .ok (.ireturn, 1) := by decide +kernel
theorem dL_law_656 : decode cL_law 656 = .ok (.aload_n 1, 1) := by decide +kernel
theorem dL_law_657 : decode cL_law 657 = .ok (.aload_n 0, 1) := by decide +kernel
theorem dL_law_658 : decode cL_law 658 = .ok (.iload_n 3, 1) := by decide +kernel
theorem dL_law_659 : decode cL_law 659 = .ok (.iconst 1, 1) := by decide +kernel
theorem dL_law_660 : decode cL_law 660 = .ok (.iadd, 1) := by decide +kernel
theorem dL_law_661 : decode cL_law 661 = .ok (.iaload, 1) := by decide +kernel
theorem dL_law_662 : decode cL_law 662 = .ok (.aload_n 0, 1) := by decide +kernel
theorem dL_law_663 : decode cL_law 663 = .ok (.iload_n 3, 1) := by decide +kernel
theorem dL_law_664 : decode cL_law 664 = .ok (.iconst 2, 1) := by decide +kernel
theorem dL_law_665 : decode cL_law 665 = .ok (.iadd, 1) := by decide +kernel
theorem dL_law_666 : decode cL_law 666 = .ok (.iaload, 1) := by decide +kernel
theorem dL_law_667 : decode cL_law 667 = .ok (.aload_n 0, 1) := by decide +kernel
theorem dL_law_668 : decode cL_law 668 = .ok (.iload_n 3, 1) := by decide +kernel
theorem dL_law_669 : decode cL_law 669 = .ok (.iconst 3, 1) := by decide +kernel
theorem dL_law_670 : decode cL_law 670 = .ok (.iadd, 1) := by decide +kernel
theorem dL_law_671 : decode cL_law 671 = .ok (.iaload, 1) := by decide +kernel
theorem dL_law_672 : decode cL_law 672 = .ok (.aload_n 0, 1) := by decide +kernel
theorem dL_law_673 : decode cL_law 673 = .ok (.iload_n 3, 1) := by decide +kernel
theorem dL_law_674 : decode cL_law 674 = .ok (.iconst 4, 1) := by decide +kernel
theorem dL_law_675 : decode cL_law 675 = .ok (.iadd, 1) := by decide +kernel
theorem dL_law_676 : decode cL_law 676 = .ok (.iaload, 1) := by decide +kernel
theorem dL_law_677 : decode cL_law 677 = .ok (.aload_n 0, 1) := by decide +kernel
theorem dL_law_678 : decode cL_law 678 = .ok (.iload_n 3, 1) := by decide +kernel
theorem dL_law_679 : decode cL_law 679 = .ok (.iconst 5, 1) := by decide +kernel
theorem dL_law_680 : decode cL_law 680 = .ok (.iadd, 1) := by decide +kernel
theorem dL_law_681 : decode cL_law 681 = .ok (.iaload, 1) := by decide +kernel
theorem dL_law_682 : decode cL_law 682 = .ok (.aload_n 0, 1) := by decide +kernel
theorem dL_law_683 : decode cL_law 683 = .ok (.iload_n 3, 1) := by decide +kernel
theorem dL_law_684 : decode cL_law 684 = .ok (.bipush 6, 2) := by decide +kernel
theorem dL_law_686 : decode cL_law 686 = .ok (.iadd, 1) := by decide +kernel
theorem dL_law_687 : decode cL_law 687 = .ok (.iaload, 1) := by decide +kernel
theorem dL_law_688 : decode cL_law 688 = .ok (.invokevirtual 80, 3) := by decide +kernel
theorem dL_law_691 : decode cL_law 691 = .ok (.aload_n 2, 1) := by decide +kernel
theorem dL_law_692 : decode cL_law 692 = .ok (.aload_n 0, 1) := by decide +kernel
theorem dL_law_693 : decode cL_law 693 = .ok (.iload_n 3, 1) := by decide +kernel
theorem dL_law_694 : decode cL_law 694 = .ok (.iconst 1, 1) := by decide +kernel
theorem dL_law_695 : decode cL_law 695 = .ok (.iadd, 1) := by decide +kernel
theorem dL_law_696 : decode cL_law 696 = .ok (.iaload, 1) := by decide +kernel
theorem dL_law_697 : decode cL_law 697 = .ok (.aload_n 0, 1) := by decide +kernel
theorem dL_law_698 : decode cL_law 698 = .ok (.iload_n 3, 1) := by decide +kernel
theorem dL_law_699 : decode cL_law 699 = .ok (.iconst 2, 1) := by decide +kernel
theorem dL_law_700 : decode cL_law 700 = .ok (.iadd, 1) := by decide +kernel
theorem dL_law_701 : decode cL_law 701 = .ok (.iaload, 1) := by decide +kernel
theorem dL_law_702 : decode cL_law 702 = .ok (.aload_n 0, 1) := by decide +kernel
theorem dL_law_703 : decode cL_law 703 = .ok (.iload_n 3, 1) := by decide +kernel
theorem dL_law_704 : decode cL_law 704 = .ok (.iconst 3, 1) := by decide +kernel
theorem dL_law_705 : decode cL_law 705 = .ok (.iadd, 1) := by decide +kernel
theorem dL_law_706 : decode cL_law 706 = .ok (.iaload, 1) := by decide +kernel
theorem dL_law_707 : decode cL_law 707 = .ok (.aload_n 0, 1) := by decide +kernel
theorem dL_law_708 : decode cL_law 708 = .ok (.iload_n 3, 1) := by decide +kernel
theorem dL_law_709 : decode cL_law 709 = .ok (.iconst 4, 1) := by decide +kernel
theorem dL_law_710 : decode cL_law 710 = .ok (.iadd, 1) := by decide +kernel
theorem dL_law_711 : decode cL_law 711 = .ok (.iaload, 1) := by decide +kernel
theorem dL_law_712 : decode cL_law 712 = .ok (.aload_n 0, 1) := by decide +kernel
theorem dL_law_713 : decode cL_law 713 = .ok (.iload_n 3, 1) := by decide +kernel
theorem dL_law_714 : decode cL_law 714 = .ok (.iconst 5, 1) := by decide +kernel
theorem dL_law_715 : decode cL_law 715 = .ok (.iadd, 1) := by decide +kernel
theorem dL_law_716 : decode cL_law 716 = .ok (.iaload, 1) := by decide +kernel
theorem dL_law_717 : decode cL_law 717 = .ok (.aload_n 0, 1) := by decide +kernel
theorem dL_law_718 : decode cL_law 718 = .ok (.iload_n 3, 1) := by decide +kernel
theorem dL_law_719 : decode cL_law 719 = .ok (.bipush 6, 2) := by decide +kernel
theorem dL_law_721 : decode cL_law 721 = .ok (.iadd, 1) := by decide +kernel
theorem dL_law_722 : decode cL_law 722 = .ok (.iaload, 1) := by decide +kernel
theorem dL_law_723 : decode cL_law 723 = .ok (.invokevirtual 84, 3) := by decide +kernel
theorem dL_law_726 : decode cL_law 726 = .ok (.lcmp, 1) := by decide +kernel
theorem dL_law_727 : decode cL_law 727 = .ok (.ifCond .eq 84, 3) := by decide +kernel
theorem dL_law_730 : decode cL_law 730 = .ok (.iconst 0, 1) := by decide +kernel
theorem dL_law_731 : decode cL_law 731 = .ok (.ireturn, 1) := by decide +kernel
theorem dL_law_732 : decode cL_law 732 = .ok (.aload_n 1, 1) := by decide +kernel
theorem dL_law_733 : decode cL_law 733 = .ok (.aload_n 0, 1) := by decide +kernel
theorem dL_law_734 : decode cL_law 734 = .ok (.iload_n 3, 1) := by decide +kernel
theorem dL_law_735 : decode cL_law 735 = .ok (.iconst 1, 1) := by decide +kernel
theorem dL_law_736 : decode cL_law 736 = .ok (.iadd, 1) := by decide +kernel
theorem dL_law_737 : decode cL_law 737 = .ok (.iaload, 1) := by decide +kernel
theorem dL_law_738 : decode cL_law 738 = .ok (.aload_n 0, 1) := by decide +kernel
theorem dL_law_739 : decode cL_law 739 = .ok (.iload_n 3, 1) := by decide +kernel
theorem dL_law_740 : decode cL_law 740 = .ok (.iconst 2, 1) := by decide +kernel
theorem dL_law_741 : decode cL_law 741 = .ok (.iadd, 1) := by decide +kernel
theorem dL_law_742 : decode cL_law 742 = .ok (.iaload, 1) := by decide +kernel
theorem dL_law_743 : decode cL_law 743 = .ok (.aload_n 0, 1) := by decide +kernel
theorem dL_law_744 : decode cL_law 744 = .ok (.iload_n 3, 1) := by decide +kernel
theorem dL_law_745 : decode cL_law 745 = .ok (.iconst 3, 1) := by decide +kernel
theorem dL_law_746 : decode cL_law 746 = .ok (.iadd, 1) := by decide +kernel
theorem dL_law_747 : decode cL_law 747 = .ok (.iaload, 1) := by decide +kernel
theorem dL_law_748 : decode cL_law 748 = .ok (.invokevirtual 85, 3) := by decide +kernel
theorem dL_law_751 : decode cL_law 751 = .ok (.aload_n 2, 1) := by decide +kernel
theorem dL_law_752 : decode cL_law 752 = .ok (.aload_n 0, 1) := by decide +kernel
theorem dL_law_753 : decode cL_law 753 = .ok (.iload_n 3, 1) := by decide +kernel
theorem dL_law_754 : decode cL_law 754 = .ok (.iconst 1, 1) := by decide +kernel
theorem dL_law_755 : decode cL_law 755 = .ok (.iadd, 1) := by decide +kernel
theorem dL_law_756 : decode cL_law 756 = .ok (.iaload, 1) := by decide +kernel
theorem dL_law_757 : decode cL_law 757 = .ok (.aload_n 0, 1) := by decide +kernel
theorem dL_law_758 : decode cL_law 758 = .ok (.iload_n 3, 1) := by decide +kernel
theorem dL_law_759 : decode cL_law 759 = .ok (.iconst 2, 1) := by decide +kernel
theorem dL_law_760 : decode cL_law 760 = .ok (.iadd, 1) := by decide +kernel
theorem dL_law_761 : decode cL_law 761 = .ok (.iaload, 1) := by decide +kernel
theorem dL_law_762 : decode cL_law 762 = .ok (.aload_n 0, 1) := by decide +kernel
theorem dL_law_763 : decode cL_law 763 = .ok (.iload_n 3, 1) := by decide +kernel
theorem dL_law_764 : decode cL_law 764 = .ok (.iconst 3, 1) := by decide +kernel
theorem dL_law_765 : decode cL_law 765 = .ok (.iadd, 1) := by decide +kernel
theorem dL_law_766 : decode cL_law 766 = .ok (.iaload, 1) := by decide +kernel
theorem dL_law_767 : decode cL_law 767 = .ok (.invokevirtual 88, 3) := by decide +kernel
theorem dL_law_770 : decode cL_law 770 = .ok (.if_icmp .eq 41, 3) := by decide +kernel
theorem dL_law_773 : decode cL_law 773 = .ok (.iconst 0, 1) := by decide +kernel
theorem dL_law_774 : decode cL_law 774 = .ok (.ireturn, 1) := by decide +kernel
theorem dL_law_775 : decode cL_law 775 = .ok (.aload_n 1, 1) := by decide +kernel
theorem dL_law_776 : decode cL_law 776 = .ok (.invokevirtual 89, 3) := by decide +kernel
theorem dL_law_779 : decode cL_law 779 = .ok (.aload_n 2, 1) := by decide +kernel
theorem dL_law_780 : decode cL_law 780 = .ok (.invokevirtual 93, 3) := by decide +kernel
theorem dL_law_783 : decode cL_law 783 = .ok (.if_icmp .eq 28, 3) := by decide +kernel
theorem dL_law_786 : decode cL_law 786 = .ok (.iconst 0, 1) := by decide +kernel
theorem dL_law_787 : decode cL_law 787 = .ok (.ireturn, 1) := by decide +kernel
theorem dL_law_788 : decode cL_law 788 = .ok (.aload_n 1, 1) := by decide +kernel
theorem dL_law_789 : decode cL_law 789 = .ok (.aload_n 0, 1) := by decide +kernel
theorem dL_law_790 : decode cL_law 790 = .ok (.iload_n 3, 1) := by decide +kernel
theorem dL_law_791 : decode cL_law 791 = .ok (.iconst 1, 1) := by decide +kernel
theorem dL_law_792 : decode cL_law 792 = .ok (.iadd, 1) := by decide +kernel
theorem dL_law_793 : decode cL_law 793 = .ok (.iaload, 1) := by decide +kernel
theorem dL_law_794 : decode cL_law 794 = .ok (.invokevirtual 94, 3) := by decide +kernel
theorem dL_law_797 : decode cL_law 797 = .ok (.aload_n 2, 1) := by decide +kernel
theorem dL_law_798 : decode cL_law 798 = .ok (.aload_n 0, 1) := by decide +kernel
theorem dL_law_799 : decode cL_law 799 = .ok (.iload_n 3, 1) := by decide +kernel
theorem dL_law_800 : decode cL_law 800 = .ok (.iconst 1, 1) := by decide +kernel
theorem dL_law_801 : decode cL_law 801 = .ok (.iadd, 1) := by decide +kernel
theorem dL_law_802 : decode cL_law 802 = .ok (.iaload, 1) := by decide +kernel
theorem dL_law_803 : decode cL_law 803 = .ok (.invokevirtual 97, 3) := by decide +kernel
theorem dL_law_806 : decode cL_law 806 = .ok (.if_icmp .eq 5, 3) := by decide +kernel
theorem dL_law_809 : decode cL_law 809 = .ok (.iconst 0, 1) := by decide +kernel
theorem dL_law_810 : decode cL_law 810 = .ok (.ireturn, 1) := by decide +kernel
theorem dL_law_811 : decode cL_law 811 = .ok (.iinc 3 7, 3) := by decide +kernel
theorem dL_law_814 : decode cL_law 814 = .ok (.goto (-796), 3) := by decide +kernel
theorem dL_law_817 : decode cL_law 817 = .ok (.iconst 1, 1) := by decide +kernel
theorem dL_law_818 : decode cL_law 818 = .ok (.ireturn, 1) := by decide +kernel
abbrev vwCl : List vw_C := [(RX0, TX0, 9), (RX1, TX1, 5), (RX2, TX2, 7), (RX3, TX3, 6), (RX4, TX4, 2), (RX5, TX5, 8), (RX6, TX6, 8), (RX7, TX7, 34)]

