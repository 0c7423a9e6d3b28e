theorem dX0_count_0 : decode cX0_count 0 = .ok (.aload_n 0, 1) := by decide +kernel
theorem dX0_count_1 : decode cX0_count 1 = .ok (.getfield 27, 3) := by decide +kernel
theorem dX0_count_4 : decode cX0_count 4 = .ok (.ireturn, 1) := by decide +kernel
theorem dX0_howMany_0 : decode cX0_howMany 0 = .ok (.iload_n 1, 1) := by decide +kernel
theorem dX0_howMany_1 : decode cX0_howMany 1 = .ok (.tableswitch 42 0 2 #[27, 32, 37], 27) := by decide +kernel
theorem dX0_howMany_28 : decode cX0_howMany 28 = .ok (.aload_n 0, 1) := by decide +kernel
theorem dX0_howMany_29 : decode cX0_howMany 29 = .ok (.getfield 27, 3) := by decide +kernel
theorem dX0_howMany_32 : decode cX0_howMany 32 = .ok (.ireturn, 1) := by decide +kernel
theorem dX0_howMany_33 : decode cX0_howMany 33 = .ok (.aload_n 0, 1) := by decide +kernel
theorem dX0_howMany_34 : decode cX0_howMany 34 = .ok (.getfield 31, 3) := by decide +kernel
theorem dX0_howMany_37 : decode cX0_howMany 37 = .ok (.ireturn, 1) := by decide +kernel
theorem dX0_howMany_38 : decode cX0_howMany 38 = .ok (.aload_n 0, 1) := by decide +kernel
theorem dX0_howMany_39 : decode cX0_howMany 39 = .ok (.getfield 34, 3) := by decide +kernel
theorem dX0_howMany_42 : decode cX0_howMany 42 = .ok (.ireturn, 1) := by decide +kernel
theorem dX0_howMany_43 : decode cX0_howMany 43 = .ok (.aload_n 0, 1) := by decide +kernel
theorem dX0_howMany_44 : decode cX0_howMany 44 = .ok (.getfield 37, 3) := by decide +kernel
theorem dX0_howMany_47 : decode cX0_howMany 47 = .ok (.ireturn, 1) := by decide +kernel
theorem dX0_rowAt_0 : decode cX0_rowAt 0 = .ok (.iload_n 1, 1) := by decide +kernel
theorem dX0_rowAt_1 : decode cX0_rowAt 1 = .ok (.ifCond .lt 20, 3) := by decide +kernel
theorem dX0_rowAt_4 : decode cX0_rowAt 4 = .ok (.iload_n 1, 1) := by decide +kernel
theorem dX0_rowAt_5 : decode cX0_rowAt 5 = .ok (.aload_n 0, 1) := by decide +kernel
theorem dX0_rowAt_6 : decode cX0_rowAt 6 = .ok (.getfield 27, 3) := by decide +kernel
theorem dX0_rowAt_9 : decode cX0_rowAt 9 = .ok (.if_icmp .ge 12, 3) := by decide +kernel
theorem dX0_rowAt_12 : decode cX0_rowAt 12 = .ok (.aload_n 0, 1) := by decide +kernel
theorem dX0_rowAt_13 : decode cX0_rowAt 13 = .ok (.getfield 19, 3) := by decide +kernel
theorem dX0_rowAt_16 : decode cX0_rowAt 16 = .ok (.iload_n 1, 1) := by decide +kernel
theorem dX0_rowAt_17 : decode cX0_rowAt 17 = .ok (.iaload, 1) := by decide +kernel
theorem dX0_rowAt_18 : decode cX0_rowAt 18 = .ok (.goto 4, 3) := by decide +kernel
theorem dX0_rowAt_21 : decode cX0_rowAt 21 = .ok (.iconst 0, 1) := by decide +kernel
theorem dX0_rowAt_22 : decode cX0_rowAt 22 = .ok (.ireturn, 1) := by decide +kernel
set_option maxRecDepth 20000 in
theorem ggX0_endsAt_X8_below : GoodIn wsX0_endsAt wsX8_below := goodIn_r _ [4] (by decide +kernel) (by decide +kernel)
set_option maxRecDepth 20000 in
theorem gX0_endsAt_X8_below_n40 : GoodIn wsX0_endsAt (wsX8_below) := ggX0_endsAt_X8_below
theorem dX0_endsAt_0 : decode cX0_endsAt 0 = .ok (.iload_n 1, 1) := by decide +kernel
theorem dX0_endsAt_1 : decode cX0_endsAt 1 = .ok (.sipush 10000, 3) := by decide +kernel
theorem dX0_endsAt_4 : decode cX0_endsAt 4 = .ok (.invokestatic 40, 3) := by decide +kernel
theorem dX0_endsAt_7 : decode cX0_endsAt 7 = .ok (.ifCond .eq 16, 3) := by decide +kernel
theorem dX0_endsAt_10 : decode cX0_endsAt 10 = .ok (.aload_n 0, 1) := by decide +kernel
theorem dX0_endsAt_11 : decode cX0_endsAt 11 = .ok (.getfield 23, 3) := by decide +kernel
theorem dX0_endsAt_14 : decode cX0_endsAt 14 = .ok (.iload_n 1, 1) := by decide +kernel
theorem dX0_endsAt_15 : decode cX0_endsAt 15 = .ok (.baload, 1) := by decide +kernel
theorem dX0_endsAt_16 : decode cX0_endsAt 16 = .ok (.ifCond .eq 7, 3) := by decide +kernel
theorem dX0_endsAt_19 : decode cX0_endsAt 19 = .ok (.iconst 1, 1) := by decide +kernel
theorem dX0_endsAt_20 : decode cX0_endsAt 20 = .ok (.goto 4, 3) := by decide +kernel
theorem dX0_endsAt_23 : decode cX0_endsAt 23 = .ok (.iconst 0, 1) := by decide +kernel
theorem dX0_endsAt_24 : decode cX0_endsAt 24 = .ok (.ireturn, 1) := by decide +kernel
set_option maxRecDepth 20000 in
theorem ggX0_goThrough_X5_hasSameThreads : GoodIn wsX0_goThrough wsX5_hasSameThreads := goodIn_r _ [13, 14, 15, 16, 17, 18, 12, 19, 20, 159, 160, 161, 162, 163] (by decide +kernel) (by decide +kernel)
set_option maxRecDepth 20000 in
theorem gX0_goThrough_X5_hasSameThreads : GoodIn wsX0_goThrough (wsV RX0 48 RX5 yX5_hasSameThreads wsX5_hasSameThreads) := goodIn_app (goodIn_of _ (by decide +kernel)) ggX0_goThrough_X5_hasSameThreads
set_option maxRecDepth 20000 in
theorem ggX0_goThrough_X5_takeFrom : GoodIn wsX0_goThrough wsX5_takeFrom := goodIn_r _ [24, 20, 25, 26, 27, 28, 15, 14, 29, 30, 159, 160, 161, 162, 163] (by decide +kernel) (by decide +kernel)
set_option maxRecDepth 20000 in
theorem gX0_goThrough_X5_takeFrom : GoodIn wsX0_goThrough (wsV RX0 52 RX5 yX5_takeFrom wsX5_takeFrom) := goodIn_app (goodIn_of _ (by decide +kernel)) ggX0_goThrough_X5_takeFrom
set_option maxRecDepth 20000 in
theorem ggX0_goThrough_X5_stepsInAll : GoodIn wsX0_goThrough wsX5_stepsInAll := goodIn_r _ [34, 15, 159, 160, 161, 162, 163] (by decide +kernel) (by decide +kernel)
set_option maxRecDepth 20000 in
theorem gX0_goThrough_X5_stepsInAll : GoodIn wsX0_goThrough (wsV RX0 56 RX5 yX5_stepsInAll wsX5_stepsInAll) := goodIn_app (goodIn_of _ (by decide +kernel)) ggX0_goThrough_X5_stepsInAll
set_option maxRecDepth 20000 in
theorem ggX0_goThrough_X5_beginning : GoodIn wsX0_goThrough wsX5_beginning := goodIn_r _ [38, 14, 159, 160, 161, 162, 163] (by decide +kernel) (by decide +kernel)
set_option maxRecDepth 20000 in
theorem gX0_goThrough_X5_beginning : GoodIn wsX0_goThrough (wsV RX0 62 RX5 yX5_beginning wsX5_beginning) := goodIn_app (goodIn_of _ (by decide +kernel)) ggX0_goThrough_X5_beginning
set_option maxRecDepth 20000 in
theorem ggX0_goThrough_X0_goOn : GoodIn wsX0_goThrough wsX0_goOn := goodIn_r _ [42, 2, 43, 44, 45, 12, 46, 47, 48, 49, 50, 51, 52, 53, 54, 55, 56, 57, 58, 59, 60, 61, 16, 17, 18, 19, 15, 20, 62, 63, 64, 65, 66, 67, 68, 69, 70, 71, 72, 73, 74, 75, 76, 77, 78, 41, 79, 4, 80, 81, 3, 5, 6, 8, 7, 82, 83, 84, 85, 86, 87, 88, 89, 90, 91, 92, 93, 94, 95, 96, 97, 98, 99, 100, 101, 102, 103, 104, 105, 106, 107, 108, 109, 110, 111, 112, 113, 114, 115, 116, 117, 118, 119, 120, 121, 122, 123, 124, 125, 126, 127, 128, 129, 130, 131, 132, 133, 134, 135, 136, 137, 138, 139, 140, 141, 142, 143, 144, 145, 146, 147, 148, 149, 39, 40, 150, 151, 152, 153, 154, 155, 156, 157, 158, 159, 160, 161, 162, 163] (by decide +kernel) (by decide +kernel)
set_option maxRecDepth 20000 in
theorem gX0_goThrough_X0_goOn : GoodIn wsX0_goThrough (va_wsS RX0 66 yX0_goOn wsX0_goOn) := goodIn_app (goodIn_of _ (by decide +kernel)) ggX0_goThrough_X0_goOn
theorem dX0_goThrough_0 : decode cX0_goThrough 0 = .ok (.aload_n 0, 1) := by decide +kernel
theorem dX0_goThrough_1 : decode cX0_goThrough 1 = .ok (.getfield 44, 3) := by decide +kernel
theorem dX0_goThrough_4 : decode cX0_goThrough 4 = .ok (.ifCond .eq 15, 3) := by decide +kernel
theorem dX0_goThrough_7 : decode cX0_goThrough 7 = .ok (.aload_n 0, 1) := by decide +kernel
theorem dX0_goThrough_8 : decode cX0_goThrough 8 = .ok (.getfield 12, 3) := by decide +kernel
theorem dX0_goThrough_11 : decode cX0_goThrough 11 = .ok (.aload_n 1, 1) := by decide +kernel
theorem dX0_goThrough_12 : decode cX0_goThrough 12 = .ok (.invokevirtual 48, 3) := by decide +kernel
theorem dX0_goThrough_15 : decode cX0_goThrough 15 = .ok (.ifCond .eq 4, 3) := by decide +kernel
theorem dX0_goThrough_18 : decode cX0_goThrough 18 = .ok (.return_, 1) := by decide +kernel
theorem dX0_goThrough_19 : decode cX0_goThrough 19 = .ok (.aload_n 0, 1) := by decide +kernel
theorem dX0_goThrough_20 : decode cX0_goThrough 20 = .ok (.getfield 12, 3) := by decide +kernel
theorem dX0_goThrough_23 : decode cX0_goThrough 23 = .ok (.aload_n 1, 1) := by decide +kernel
theorem dX0_goThrough_24 : decode cX0_goThrough 24 = .ok (.invokevirtual 52, 3) := by decide +kernel
theorem dX0_goThrough_27 : decode cX0_goThrough 27 = .ok (.aload_n 0, 1) := by decide +kernel
theorem dX0_goThrough_28 : decode cX0_goThrough 28 = .ok (.iconst 1, 1) := by decide +kernel
theorem dX0_goThrough_29 : decode cX0_goThrough 29 = .ok (.putfield 44, 3) := by decide +kernel
theorem dX0_goThrough_32 : decode cX0_goThrough 32 = .ok (.aload_n 0, 1) := by decide +kernel
theorem dX0_goThrough_33 : decode cX0_goThrough 33 = .ok (.aload_n 0, 1) := by decide +kernel
theorem dX0_goThrough_34 : decode cX0_goThrough 34 = .ok (.getfield 12, 3) := by decide +kernel
theorem dX0_goThrough_37 : decode cX0_goThrough 37 = .ok (.invokevirtual 56, 3) := by decide +kernel
theorem dX0_goThrough_40 : decode cX0_goThrough 40 = .ok (.putfield 60, 3) := by decide +kernel
theorem dX0_goThrough_43 : decode cX0_goThrough 43 = .ok (.aload_n 0, 1) := by decide +kernel
theorem dX0_goThrough_44 : decode cX0_goThrough 44 = .ok (.iconst 0, 1) := by decide +kernel
theorem dX0_goThrough_45 : decode cX0_goThrough 45 = .ok (.putfield 27, 3) := by decide +kernel
theorem dX0_goThrough_48 : decode cX0_goThrough 48 = .ok (.aload_n 0, 1) := by decide +kernel
theorem dX0_goThrough_49 : decode cX0_goThrough 49 = .ok (.iconst 0, 1) := by decide +kernel
theorem dX0_goThrough_50 : decode cX0_goThrough 50 = .ok (.putfield 31, 3) := by decide +kernel
theorem dX0_goThrough_53 : decode cX0_goThrough 53 = .ok (.aload_n 0, 1) := by decide +kernel
theorem dX0_goThrough_54 : decode cX0_goThrough 54 = .ok (.iconst 0, 1) := by decide +kernel
theorem dX0_goThrough_55 : decode cX0_goThrough 55 = .ok (.putfield 34, 3) := by decide +kernel
theorem dX0_goThrough_58 : decode cX0_goThrough 58 = .ok (.aload_n 0, 1) := by decide +kernel
theorem dX0_goThrough_59 : decode cX0_goThrough 59 = .ok (.iconst 0, 1) := by decide +kernel
theorem dX0_goThrough_60 : decode cX0_goThrough 60 = .ok (.putfield 37, 3) := by decide +kernel
theorem dX0_goThrough_63 : decode cX0_goThrough 63 = .ok (.iconst 0, 1) := by decide +kernel
theorem dX0_goThrough_64 : decode cX0_goThrough 64 = .ok (.istore_n 2, 1) := by decide +kernel
theorem dX0_goThrough_65 : decode cX0_goThrough 65 = .ok (.iload_n 2, 1) := by decide +kernel
theorem dX0_goThrough_66 : decode cX0_goThrough 66 = .ok (.sipush 10000, 3) := by decide +kernel
theorem dX0_goThrough_69 : decode cX0_goThrough 69 = .ok (.if_icmp .ge 16, 3) := by decide +kernel
theorem dX0_goThrough_72 : decode cX0_goThrough 72 = .ok (.aload_n 0, 1) := by decide +kernel
theorem dX0_goThrough_73 : decode cX0_goThrough 73 = .ok (.getfield 23, 3) := by decide +kernel
theorem dX0_goThrough_76 : decode cX0_goThrough 76 = .ok (.iload_n 2, 1) := by decide +kernel
theorem dX0_goThrough_77 : decode cX0_goThrough 77 = .ok (.iconst 0, 1) := by decide +kernel
theorem dX0_goThrough_78 : decode cX0_goThrough 78 = .ok (.bastore, 1) := by decide +kernel
theorem dX0_goThrough_79 : decode cX0_goThrough 79 = .ok (.iinc 2 1, 3) := by decide +kernel
theorem dX0_goThrough_82 : decode cX0_goThrough 82 = .ok (.goto (-17), 3) := by decide +kernel
theorem dX0_goThrough_85 : decode cX0_goThrough 85 = .ok (.aload_n 0, 1) := by decide +kernel
theorem dX0_goThrough_86 : decode cX0_goThrough 86 = .ok (.aload_n 0, 1) := by decide +kernel
theorem dX0_goThrough_87 : decode cX0_goThrough 87 = .ok (.getfield 12, 3) := by decide +kernel
theorem dX0_goThrough_90 : decode cX0_goThrough 90 = .ok (.invokevirtual 62, 3) := by decide +kernel
theorem dX0_goThrough_93 : decode cX0_goThrough 93 = .ok (.iconst 0, 1) := by decide +kernel
theorem dX0_goThrough_94 : decode cX0_goThrough 94 = .ok (.iconst 0, 1) := by decide +kernel
theorem dX0_goThrough_95 : decode cX0_goThrough 95 = .ok (.invokestatic 66, 3) := by decide +kernel
theorem dX0_goThrough_98 : decode cX0_goThrough 98 = .ok (.return_, 1) := by decide +kernel
set_option maxRecDepth 20000 in
theorem ggX0_goOn_X5_ableBits : GoodIn wsX0_goOn wsX5_ableBits := goodIn_r _ [6, 7, 8, 9, 5, 10, 11, 12, 13, 14, 15, 16, 17, 18, 19, 20, 21, 22, 23, 24, 25, 26, 27, 28, 29, 30, 31, 32, 33, 34, 35, 36, 37, 134, 135, 136, 137, 138] (by decide +kernel) (by decide +kernel)
set_option maxRecDepth 20000 in
theorem gX0_goOn_X5_ableBits : GoodIn wsX0_goOn (wsV RX0 70 RX5 yX5_ableBits wsX5_ableBits) := goodIn_app (goodIn_of _ (by decide +kernel)) ggX0_goOn_X5_ableBits
set_option maxRecDepth 20000 in
theorem ggX0_goOn_X4_length : GoodIn wsX0_goOn wsX4_length := goodIn_r _ [41] (by decide +kernel) (by decide +kernel)
set_option maxRecDepth 20000 in
theorem gX0_goOn_X4_length : GoodIn wsX0_goOn (va_wsS RX0 74 yX4_length wsX4_length) := goodIn_app (goodIn_of _ (by decide +kernel)) ggX0_goOn_X4_length
set_option maxRecDepth 20000 in
theorem ggX0_goOn_X0_keep : GoodIn wsX0_goOn wsX0_keep := goodIn_r _ [46, 47, 48, 49, 50, 51, 52, 53, 54, 38, 39, 40, 41, 55, 56, 17, 57, 19, 20, 21, 58, 59, 60, 61, 62, 63, 64, 65, 66, 125, 126, 127, 128, 129, 130, 131, 132, 133] (by decide +kernel) (by decide +kernel)
set_option maxRecDepth 20000 in
theorem gX0_goOn_X0_keep : GoodIn wsX0_goOn (wsV RX0 80 RX0 yX0_keep wsX0_keep) := goodIn_app (goodIn_of _ (by decide +kernel)) ggX0_goOn_X0_keep
set_option maxRecDepth 20000 in
theorem ggX0_goOn_X4_withThreadAt : GoodIn wsX0_goOn wsX4_withThreadAt := goodIn_r _ [69, 70, 39, 40, 41] (by decide +kernel) (by decide +kernel)
set_option maxRecDepth 20000 in
theorem gX0_goOn_X4_withThreadAt : GoodIn wsX0_goOn (va_wsS RX0 84 yX4_withThreadAt wsX4_withThreadAt) := goodIn_app (goodIn_of _ (by decide +kernel)) ggX0_goOn_X4_withThreadAt
set_option maxRecDepth 20000 in
theorem ggX0_goOn_X0_notWoken : GoodIn wsX0_goOn wsX0_notWoken := goodIn_r _ [74, 1, 75, 12, 13, 5, 14, 15, 16, 17, 18, 19, 20, 21, 22, 23, 24, 25, 26, 27, 76, 77, 30, 78, 79, 80, 81, 82, 83, 84, 85, 29, 31, 86, 33, 34, 87, 88, 89, 90, 91, 92, 93, 94, 95, 96, 97, 98, 125, 126, 127, 128, 129, 130, 131, 132, 133, 134, 135, 136, 137, 138] (by decide +kernel) (by decide +kernel)
set_option maxRecDepth 20000 in
theorem gX0_goOn_X0_notWoken : GoodIn wsX0_goOn (wsV RX0 88 RX0 yX0_notWoken wsX0_notWoken) := goodIn_app (goodIn_of _ (by decide +kernel)) ggX0_goOn_X0_notWoken
set_option maxRecDepth 20000 in
theorem ggX0_goOn_X5_stepDone : GoodIn wsX0_goOn wsX5_stepDone := goodIn_r _ [102, 11, 12, 13, 5, 14, 15, 16, 17, 18, 19, 20, 21, 22, 23, 24, 25, 26, 27, 103, 104, 105, 106, 107, 108, 109, 110, 32, 33, 30, 34, 111, 91, 92, 112, 62, 63, 28, 29, 31, 113, 114, 115, 116, 117, 118, 119, 56, 57, 120, 121, 122, 134, 135, 136, 137, 138] (by decide +kernel) (by decide +kernel)
set_option maxRecDepth 20000 in
theorem gX0_goOn_X5_stepDone : GoodIn wsX0_goOn (wsV RX0 92 RX5 yX5_stepDone wsX5_stepDone) := goodIn_app (goodIn_of _ (by decide +kernel)) ggX0_goOn_X5_stepDone
set_option maxRecDepth 20000 in
theorem ggX0_goOn_X0_goOn : GoodIn wsX0_goOn wsX0_goOn := goodIn_r _ [0, 1, 2, 3, 4, 5, 6, 7, 8, 9, 10, 11, 12, 13, 14, 15, 16, 17, 18, 19, 20, 21, 22, 23, 24, 25, 26, 27, 28, 29, 30, 31, 32, 33, 34, 35, 36, 37, 38, 39, 40, 41, 42, 43, 44, 45, 46, 47, 48, 49, 50, 51, 52, 53, 54, 55, 56, 57, 58, 59, 60, 61, 62, 63, 64, 65, 66, 67, 68, 69, 70, 71, 72, 73, 74, 75, 76, 77, 78, 79, 80, 81, 82, 83, 84, 85, 86, 87, 88, 89, 90, 91, 92, 93, 94, 95, 96, 97, 98, 99, 100, 101, 102, 103, 104, 105, 106, 107, 108, 109, 110, 111, 112, 113, 114, 115, 116, 117, 118, 119, 120, 121, 122, 123, 124, 125, 126, 127, 128, 129, 130, 131, 132, 133, 134, 135, 136, 137, 138] (by decide +kernel) (by decide +kernel)
set_option maxRecDepth 20000 in
theorem gX0_goOn_X0_goOn : GoodIn wsX0_goOn (va_wsS RX0 66 yX0_goOn wsX0_goOn) := goodIn_app (goodIn_of _ (by decide +kernel)) ggX0_goOn_X0_goOn
theorem dX0_goOn_0 : decode cX0_goOn 0 = .ok (.aload_n 0, 1) := by decide +kernel
theorem dX0_goOn_1 : decode cX0_goOn 1 = .ok (.getfield 12, 3) := by decide +kernel
theorem dX0_goOn_4 : decode cX0_goOn 4 = .ok (.lload_n 1, 1) := by decide +kernel
theorem dX0_goOn_5 : decode cX0_goOn 5 = .ok (.invokevirtual 70, 3) := by decide +kernel
theorem dX0_goOn_8 : decode cX0_goOn 8 = .ok (.istore 5, 2) := by decide +kernel
theorem dX0_goOn_10 : decode cX0_goOn 10 = .ok (.iload 5, 2) := by decide +kernel
theorem dX0_goOn_12 : decode cX0_goOn 12 = .ok (.ifCond .eq 12, 3) := by decide +kernel
theorem dX0_goOn_15 : decode cX0_goOn 15 = .ok (.iload_n 3, 1) := by decide +kernel
theorem dX0_goOn_16 : decode cX0_goOn 16 = .ok (.invokestatic 74, 3) := by decide +kernel
theorem dX0_goOn_19 : decode cX0_goOn 19 = .ok (.bipush 12, 2) := by decide +kernel
theorem dX0_goOn_21 : decode cX0_goOn 21 = .ok (.if_icmp .lt 10, 3) := by decide +kernel
theorem dX0_goOn_24 : decode cX0_goOn 24 = .ok (.aload_n 0, 1) := by decide +kernel
theorem dX0_goOn_25 : decode cX0_goOn 25 = .ok (.lload_n 1, 1) := by decide +kernel
theorem dX0_goOn_26 : decode cX0_goOn 26 = .ok (.iload_n 3, 1) := by decide +kernel
theorem dX0_goOn_27 : decode cX0_goOn 27 = .ok (.invokevirtual 80, 3) := by decide +kernel
theorem dX0_goOn_30 : decode cX0_goOn 30 = .ok (.return_, 1) := by decide +kernel
theorem dX0_goOn_31 : decode cX0_goOn 31 = .ok (.iload 4, 2) := by decide +kernel
theorem dX0_goOn_33 : decode cX0_goOn 33 = .ok (.istore 6, 2) := by decide +kernel
theorem dX0_goOn_35 : decode cX0_goOn 35 = .ok (.iconst 0, 1) := by decide +kernel
theorem dX0_goOn_36 : decode cX0_goOn 36 = .ok (.istore 7, 2) := by decide +kernel
theorem dX0_goOn_38 : decode cX0_goOn 38 = .ok (.iload 7, 2) := by decide +kernel
theorem dX0_goOn_40 : decode cX0_goOn 40 = .ok (.iconst 3, 1) := by decide +kernel
theorem dX0_goOn_41 : decode cX0_goOn 41 = .ok (.if_icmp .ge 74, 3) := by decide +kernel
theorem dX0_goOn_44 : decode cX0_goOn 44 = .ok (.iload 5, 2) := by decide +kernel
theorem dX0_goOn_46 : decode cX0_goOn 46 = .ok (.iload 6, 2) := by decide +kernel
theorem dX0_goOn_48 : decode cX0_goOn 48 = .ok (.iconst (-1), 1) := by decide +kernel
theorem dX0_goOn_49 : decode cX0_goOn 49 = .ok (.ixor, 1) := by decide +kernel
theorem dX0_goOn_50 : decode cX0_goOn 50 = .ok (.iand, 1) := by decide +kernel
theorem dX0_goOn_51 : decode cX0_goOn 51 = .ok (.iconst 1, 1) := by decide +kernel
theorem dX0_goOn_52 : decode cX0_goOn 52 = .ok (.iload 7, 2) := by decide +kernel
theorem dX0_goOn_54 : decode cX0_goOn 54 = .ok (.ishl, 1) := by decide +kernel
theorem dX0_goOn_55 : decode cX0_goOn 55 = .ok (.iand, 1) := by decide +kernel
theorem dX0_goOn_56 : decode cX0_goOn 56 = .ok (.ifCond .eq 53, 3) := by decide +kernel
theorem dX0_goOn_59 : decode cX0_goOn 59 = .ok (.iload_n 3, 1) := by decide +kernel
theorem dX0_goOn_60 : decode cX0_goOn 60 = .ok (.iload_n 3, 1) := by decide +kernel
theorem dX0_goOn_61 : decode cX0_goOn 61 = .ok (.invokestatic 74, 3) := by decide +kernel
theorem dX0_goOn_64 : decode cX0_goOn 64 = .ok (.iload 7, 2) := by decide +kernel
theorem dX0_goOn_66 : decode cX0_goOn 66 = .ok (.invokestatic 84, 3) := by decide +kernel
theorem dX0_goOn_69 : decode cX0_goOn 69 = .ok (.istore 8, 2) := by decide +kernel
theorem dX0_goOn_71 : decode cX0_goOn 71 = .ok (.aload_n 0, 1) := by decide +kernel
theorem dX0_goOn_72 : decode cX0_goOn 72 = .ok (.lload_n 1, 1) := by decide +kernel
theorem dX0_goOn_73 : decode cX0_goOn 73 = .ok (.iload 7, 2) := by decide +kernel
theorem dX0_goOn_75 : decode cX0_goOn 75 = .ok (.iload 6, 2) := by decide +kernel
theorem dX0_goOn_77 : decode cX0_goOn 77 = .ok (.invokevirtual 88, 3) := by decide +kernel
theorem dX0_goOn_80 : decode cX0_goOn 80 = .ok (.istore 9, 2) := by decide +kernel
theorem dX0_goOn_82 : decode cX0_goOn 82 = .ok (.aload_n 0, 1) := by decide +kernel
theorem dX0_goOn_83 : decode cX0_goOn 83 = .ok (.aload_n 0, 1) := by decide +kernel
theorem dX0_goOn_84 : decode cX0_goOn 84 = .ok (.getfield 12, 3) := by decide +kernel
theorem dX0_goOn_87 : decode cX0_goOn 87 = .ok (.lload_n 1, 1) := by decide +kernel
theorem dX0_goOn_88 : decode cX0_goOn 88 = .ok (.iload 7, 2) := by decide +kernel
theorem dX0_goOn_90 : decode cX0_goOn 90 = .ok (.invokevirtual 92, 3) := by decide +kernel
theorem dX0_goOn_93 : decode cX0_goOn 93 = .ok (.iload 8, 2) := by decide +kernel
theorem dX0_goOn_95 : decode cX0_goOn 95 = .ok (.iload 9, 2) := by decide +kernel
theorem dX0_goOn_97 : decode cX0_goOn 97 = .ok (.invokestatic 66, 3) := by decide +kernel
theorem dX0_goOn_100 : decode cX0_goOn 100 = .ok (.iload 6, 2) := by decide +kernel
theorem dX0_goOn_102 : decode cX0_goOn 102 = .ok (.iconst 1, 1) := by decide +kernel
theorem dX0_goOn_103 : decode cX0_goOn 103 = .ok (.iload 7, 2) := by decide +kernel
theorem dX0_goOn_105 : decode cX0_goOn 105 = .ok (.ishl, 1) := by decide +kernel
theorem dX0_goOn_106 : decode cX0_goOn 106 = .ok (.ior, 1) := by decide +kernel
theorem dX0_goOn_107 : decode cX0_goOn 107 = .ok (.istore 6, 2) := by decide +kernel
theorem dX0_goOn_109 : decode cX0_goOn 109 = .ok (.iinc 7 1, 3) := by decide +kernel
theorem dX0_goOn_112 : decode cX0_goOn 112 = .ok (.goto (-74), 3) := by decide +kernel
theorem dX0_goOn_115 : decode cX0_goOn 115 = .ok (.return_, 1) := by decide +kernel
set_option maxRecDepth 20000 in
theorem ggX0_notWoken_X5_nextStep : GoodIn wsX0_notWoken wsX5_nextStep := goodIn_r _ [6, 7, 8, 9, 10, 11, 12, 13, 14, 15, 16, 5, 17, 18, 19, 57, 58, 59, 60, 61] (by decide +kernel) (by decide +kernel)
set_option maxRecDepth 20000 in
theorem gX0_notWoken_X5_nextStep : GoodIn wsX0_notWoken (wsV RX0 96 RX5 yX5_nextStep wsX5_nextStep) := goodIn_app (goodIn_of _ (by decide +kernel)) ggX0_notWoken_X5_nextStep
set_option maxRecDepth 20000 in
theorem ggX0_notWoken_X6_tied : GoodIn wsX0_notWoken wsX6_tied := goodIn_r _ [23, 24, 25, 22, 26, 27, 28, 29, 30, 31, 32, 33, 34, 35, 36, 37, 38, 39, 40, 41, 42, 43, 44, 45, 46, 47] (by decide +kernel) (by decide +kernel)
set_option maxRecDepth 20000 in
theorem gX0_notWoken_X6_tied : GoodIn wsX0_notWoken (va_wsS RX0 100 yX6_tied wsX6_tied) := goodIn_app (goodIn_of _ (by decide +kernel)) ggX0_notWoken_X6_tied
theorem dX0_notWoken_0 : decode cX0_notWoken 0 = .ok (.aload_n 0, 1) := by decide +kernel
theorem dX0_notWoken_1 : decode cX0_notWoken 1 = .ok (.getfield 12, 3) := by decide +kernel
theorem dX0_notWoken_4 : decode cX0_notWoken 4 = .ok (.lload_n 1, 1) := by decide +kernel
theorem dX0_notWoken_5 : decode cX0_notWoken 5 = .ok (.iload_n 3, 1) := by decide +kernel
theorem dX0_notWoken_6 : decode cX0_notWoken 6 = .ok (.invokevirtual 96, 3) := by decide +kernel
theorem dX0_notWoken_9 : decode cX0_notWoken 9 = .ok (.istore 5, 2) := by decide +kernel
theorem dX0_notWoken_11 : decode cX0_notWoken 11 = .ok (.iconst 0, 1) := by decide +kernel
theorem dX0_notWoken_12 : decode cX0_notWoken 12 = .ok (.istore 6, 2) := by decide +kernel
theorem dX0_notWoken_14 : decode cX0_notWoken 14 = .ok (.iconst 0, 1) := by decide +kernel
theorem dX0_notWoken_15 : decode cX0_notWoken 15 = .ok (.istore 7, 2) := by decide +kernel
theorem dX0_notWoken_17 : decode cX0_notWoken 17 = .ok (.iload 7, 2) := by decide +kernel
theorem dX0_notWoken_19 : decode cX0_notWoken 19 = .ok (.iconst 3, 1) := by decide +kernel
theorem dX0_notWoken_20 : decode cX0_notWoken 20 = .ok (.if_icmp .ge 46, 3) := by decide +kernel
theorem dX0_notWoken_23 : decode cX0_notWoken 23 = .ok (.iload 4, 2) := by decide +kernel
theorem dX0_notWoken_25 : decode cX0_notWoken 25 = .ok (.iconst 1, 1) := by decide +kernel
theorem dX0_notWoken_26 : decode cX0_notWoken 26 = .ok (.iload 7, 2) := by decide +kernel
theorem dX0_notWoken_28 : decode cX0_notWoken 28 = .ok (.ishl, 1) := by decide +kernel
theorem dX0_notWoken_29 : decode cX0_notWoken 29 = .ok (.iand, 1) := by decide +kernel
theorem dX0_notWoken_30 : decode cX0_notWoken 30 = .ok (.ifCond .eq 30, 3) := by decide +kernel
theorem dX0_notWoken_33 : decode cX0_notWoken 33 = .ok (.iload 5, 2) := by decide +kernel
theorem dX0_notWoken_35 : decode cX0_notWoken 35 = .ok (.aload_n 0, 1) := by decide +kernel
theorem dX0_notWoken_36 : decode cX0_notWoken 36 = .ok (.getfield 12, 3) := by decide +kernel
theorem dX0_notWoken_39 : decode cX0_notWoken 39 = .ok (.lload_n 1, 1) := by decide +kernel
theorem dX0_notWoken_40 : decode cX0_notWoken 40 = .ok (.iload 7, 2) := by decide +kernel
theorem dX0_notWoken_42 : decode cX0_notWoken 42 = .ok (.invokevirtual 96, 3) := by decide +kernel
theorem dX0_notWoken_45 : decode cX0_notWoken 45 = .ok (.invokestatic 100, 3) := by decide +kernel
theorem dX0_notWoken_48 : decode cX0_notWoken 48 = .ok (.ifCond .ne 12, 3) := by decide +kernel
theorem dX0_notWoken_51 : decode cX0_notWoken 51 = .ok (.iload 6, 2) := by decide +kernel
theorem dX0_notWoken_53 : decode cX0_notWoken 53 = .ok (.iconst 1, 1) := by decide +kernel
theorem dX0_notWoken_54 : decode cX0_notWoken 54 = .ok (.iload 7, 2) := by decide +kernel
theorem dX0_notWoken_56 : decode cX0_notWoken 56 = .ok (.ishl, 1) := by decide +kernel
theorem dX0_notWoken_57 : decode cX0_notWoken 57 = .ok (.ior, 1) := by decide +kernel
theorem dX0_notWoken_58 : decode cX0_notWoken 58 = .ok (.istore 6, 2) := by decide +kernel
theorem dX0_notWoken_60 : decode cX0_notWoken 60 = .ok (.iinc 7 1, 3) := by decide +kernel
theorem dX0_notWoken_63 : decode cX0_notWoken 63 = .ok (.goto (-46), 3) := by decide +kernel
theorem dX0_notWoken_66 : decode cX0_notWoken 66 = .ok (.iload 6, 2) := by decide +kernel
theorem dX0_notWoken_68 : decode cX0_notWoken 68 = .ok (.ireturn, 1) := by decide +kernel
set_option maxRecDepth 20000 in
theorem ggX0_keep_X4_length : GoodIn wsX0_keep wsX4_length := goodIn_r _ [12] (by decide +kernel) (by decide +kernel)
set_option maxRecDepth 20000 in
theorem gX0_keep_X4_length : GoodIn wsX0_keep (va_wsS RX0 74 yX4_length wsX4_length) := goodIn_app (goodIn_of _ (by decide +kernel)) ggX0_keep_X4_length
set_option maxRecDepth 20000 in
theorem ggX0_keep_X2_wrongOnes : GoodIn wsX0_keep wsX2_wrongOnes := goodIn_r _ [16, 17, 18, 15, 19] (by decide +kernel) (by decide +kernel)
set_option maxRecDepth 20000 in
theorem gX0_keep_X2_wrongOnes : GoodIn wsX0_keep (va_wsS RX0 105 yX2_wrongOnes wsX2_wrongOnes) := goodIn_app (goodIn_of _ (by decide +kernel)) ggX0_keep_X2_wrongOnes
set_option maxRecDepth 20000 in
theorem ggX0_keep_X2_ending : GoodIn wsX0_keep wsX2_ending := goodIn_r _ [22, 23, 24, 15, 25, 17, 18, 19] (by decide +kernel) (by decide +kernel)
set_option maxRecDepth 20000 in
theorem gX0_keep_X2_ending : GoodIn wsX0_keep (va_wsS RX0 109 yX2_ending wsX2_ending) := goodIn_app (goodIn_of _ (by decide +kernel)) ggX0_keep_X2_ending
set_option maxRecDepth 20000 in
theorem ggX0_keep_X8_below : GoodIn wsX0_keep wsX8_below := goodIn_r _ [28] (by decide +kernel) (by decide +kernel)
set_option maxRecDepth 20000 in
theorem gX0_keep_X8_below_n40 : GoodIn wsX0_keep (wsX8_below) := ggX0_keep_X8_below
theorem dX0_keep_0 : decode cX0_keep 0 = .ok (.aload_n 0, 1) := by decide +kernel
theorem dX0_keep_1 : decode cX0_keep 1 = .ok (.getfield 27, 3) := by decide +kernel
theorem dX0_keep_4 : decode cX0_keep 4 = .ok (.ldc 18, 2) := by decide +kernel
theorem dX0_keep_6 : decode cX0_keep 6 = .ok (.if_icmp .lt 4, 3) := by decide +kernel
theorem dX0_keep_9 : decode cX0_keep 9 = .ok (.return_, 1) := by decide +kernel
theorem dX0_keep_10 : decode cX0_keep 10 = .ok (.aload_n 0, 1) := by decide +kernel
theorem dX0_keep_11 : decode cX0_keep 11 = .ok (.getfield 19, 3) := by decide +kernel
theorem dX0_keep_14 : decode cX0_keep 14 = .ok (.aload_n 0, 1) := by decide +kernel
theorem dX0_keep_15 : decode cX0_keep 15 = .ok (.getfield 27, 3) := by decide +kernel
theorem dX0_keep_18 : decode cX0_keep 18 = .ok (.iload_n 3, 1) := by decide +kernel
theorem dX0_keep_19 : decode cX0_keep 19 = .ok (.iastore, 1) := by decide +kernel
theorem dX0_keep_20 : decode cX0_keep 20 = .ok (.aload_n 0, 1) := by decide +kernel
theorem dX0_keep_21 : decode cX0_keep 21 = .ok (.dup, 1) := by decide +kernel
theorem dX0_keep_22 : decode cX0_keep 22 = .ok (.getfield 27, 3) := by decide +kernel
theorem dX0_keep_25 : decode cX0_keep 25 = .ok (.iconst 1, 1) := by decide +kernel
theorem dX0_keep_26 : decode cX0_keep 26 = .ok (.iadd, 1) := by decide +kernel
theorem dX0_keep_27 : decode cX0_keep 27 = .ok (.putfield 27, 3) := by decide +kernel
theorem dX0_keep_30 : decode cX0_keep 30 = .ok (.iload_n 3, 1) := by decide +kernel
theorem dX0_keep_31 : decode cX0_keep 31 = .ok (.invokestatic 74, 3) := by decide +kernel
theorem dX0_keep_34 : decode cX0_keep 34 = .ok (.aload_n 0, 1) := by decide +kernel
theorem dX0_keep_35 : decode cX0_keep 35 = .ok (.getfield 60, 3) := by decide +kernel
theorem dX0_keep_38 : decode cX0_keep 38 = .ok (.if_icmp .ge 13, 3) := by decide +kernel
theorem dX0_keep_41 : decode cX0_keep 41 = .ok (.aload_n 0, 1) := by decide +kernel
theorem dX0_keep_42 : decode cX0_keep 42 = .ok (.dup, 1) := by decide +kernel
theorem dX0_keep_43 : decode cX0_keep 43 = .ok (.getfield 31, 3) := by decide +kernel
theorem dX0_keep_46 : decode cX0_keep 46 = .ok (.iconst 1, 1) := by decide +kernel
theorem dX0_keep_47 : decode cX0_keep 47 = .ok (.iadd, 1) := by decide +kernel
theorem dX0_keep_48 : decode cX0_keep 48 = .ok (.putfield 31, 3) := by decide +kernel
theorem dX0_keep_51 : decode cX0_keep 51 = .ok (.lload_n 1, 1) := by decide +kernel
theorem dX0_keep_52 : decode cX0_keep 52 = .ok (.invokestatic 105, 3) := by decide +kernel
theorem dX0_keep_55 : decode cX0_keep 55 = .ok (.ifCond .le 13, 3) := by decide +kernel
theorem dX0_keep_58 : decode cX0_keep 58 = .ok (.aload_n 0, 1) := by decide +kernel
theorem dX0_keep_59 : decode cX0_keep 59 = .ok (.dup, 1) := by decide +kernel
theorem dX0_keep_60 : decode cX0_keep 60 = .ok (.getfield 34, 3) := by decide +kernel
theorem dX0_keep_63 : decode cX0_keep 63 = .ok (.iconst 1, 1) := by decide +kernel
theorem dX0_keep_64 : decode cX0_keep 64 = .ok (.iadd, 1) := by decide +kernel
theorem dX0_keep_65 : decode cX0_keep 65 = .ok (.putfield 34, 3) := by decide +kernel
theorem dX0_keep_68 : decode cX0_keep 68 = .ok (.lload_n 1, 1) := by decide +kernel
theorem dX0_keep_69 : decode cX0_keep 69 = .ok (.invokestatic 109, 3) := by decide +kernel
theorem dX0_keep_72 : decode cX0_keep 72 = .ok (.istore 4, 2) := by decide +kernel
theorem dX0_keep_74 : decode cX0_keep 74 = .ok (.iload 4, 2) := by decide +kernel
theorem dX0_keep_76 : decode cX0_keep 76 = .ok (.sipush 10000, 3) := by decide +kernel
theorem dX0_keep_79 : decode cX0_keep 79 = .ok (.invokestatic 40, 3) := by decide +kernel
theorem dX0_keep_82 : decode cX0_keep 82 = .ok (.ifCond .eq 31, 3) := by decide +kernel
theorem dX0_keep_85 : decode cX0_keep 85 = .ok (.aload_n 0, 1) := by decide +kernel
theorem dX0_keep_86 : decode cX0_keep 86 = .ok (.getfield 23, 3) := by decide +kernel
theorem dX0_keep_89 : decode cX0_keep 89 = .ok (.iload 4, 2) := by decide +kernel
theorem dX0_keep_91 : decode cX0_keep 91 = .ok (.baload, 1) := by decide +kernel
theorem dX0_keep_92 : decode cX0_keep 92 = .ok (.ifCond .ne 21, 3) := by decide +kernel
theorem dX0_keep_95 : decode cX0_keep 95 = .ok (.aload_n 0, 1) := by decide +kernel
theorem dX0_keep_96 : decode cX0_keep 96 = .ok (.getfield 23, 3) := by decide +kernel
theorem dX0_keep_99 : decode cX0_keep 99 = .ok (.iload 4, 2) := by decide +kernel
theorem dX0_keep_101 : decode cX0_keep 101 = .ok (.iconst 1, 1) := by decide +kernel
theorem dX0_keep_102 : decode cX0_keep 102 = .ok (.bastore, 1) := by decide +kernel
theorem dX0_keep_103 : decode cX0_keep 103 = .ok (.aload_n 0, 1) := by decide +kernel
theorem dX0_keep_104 : decode cX0_keep 104 = .ok (.dup, 1) := by decide +kernel
theorem dX0_keep_105 : decode cX0_keep 105 = .ok (.getfield 37, 3) := by decide +kernel
theorem dX0_keep_108 : decode cX0_keep 108 = .ok (.iconst 1, 1) := by decide +kernel
theorem dX0_keep_109 : decode cX0_keep 109 = .ok (.iadd, 1) := by decide +kernel
theorem dX0_keep_110 : decode cX0_keep 110 = .ok (.putfield 37, 3) := by decide +kernel
theorem dX0_keep_113 : decode cX0_keep 113 = .ok (.return_, 1) := by decide +kernel
theorem dX0_find_0 : decode cX0_find 0 = .ok (.iconst 0, 1) := by decide +kernel
theorem dX0_find_1 : decode cX0_find 1 = .ok (.istore_n 2, 1) := by decide +kernel
theorem dX0_find_2 : decode cX0_find 2 = .ok (.aload_n 0, 1) := by decide +kernel
theorem dX0_find_3 : decode cX0_find 3 = .ok (.getfield 27, 3) := by decide +kernel
theorem dX0_find_6 : decode cX0_find 6 = .ok (.istore_n 3, 1) := by decide +kernel
theorem dX0_find_7 : decode cX0_find 7 = .ok (.iconst 0, 1) := by decide +kernel
theorem dX0_find_8 : decode cX0_find 8 = .ok (.istore 4, 2) := by decide +kernel
theorem dX0_find_10 : decode cX0_find 10 = .ok (.iload 4, 2) := by decide +kernel
theorem dX0_find_12 : decode cX0_find 12 = .ok (.bipush 32, 2) := by decide +kernel
theorem dX0_find_14 : decode cX0_find 14 = .ok (.if_icmp .ge 43, 3) := by decide +kernel
theorem dX0_find_17 : decode cX0_find 17 = .ok (.iload_n 2, 1) := by decide +kernel
theorem dX0_find_18 : decode cX0_find 18 = .ok (.iload_n 3, 1) := by decide +kernel
theorem dX0_find_19 : decode cX0_find 19 = .ok (.if_icmp .ge 38, 3) := by decide +kernel
theorem dX0_find_22 : decode cX0_find 22 = .ok (.iload_n 2, 1) := by decide +kernel
theorem dX0_find_23 : decode cX0_find 23 = .ok (.iload_n 3, 1) := by decide +kernel
theorem dX0_find_24 : decode cX0_find 24 = .ok (.iadd, 1) := by decide +kernel
theorem dX0_find_25 : decode cX0_find 25 = .ok (.iconst 2, 1) := by decide +kernel
theorem dX0_find_26 : decode cX0_find 26 = .ok (.idiv, 1) := by decide +kernel
theorem dX0_find_27 : decode cX0_find 27 = .ok (.istore 5, 2) := by decide +kernel
theorem dX0_find_29 : decode cX0_find 29 = .ok (.aload_n 0, 1) := by decide +kernel
theorem dX0_find_30 : decode cX0_find 30 = .ok (.getfield 19, 3) := by decide +kernel
theorem dX0_find_33 : decode cX0_find 33 = .ok (.iload 5, 2) := by decide +kernel
theorem dX0_find_35 : decode cX0_find 35 = .ok (.iaload, 1) := by decide +kernel
theorem dX0_find_36 : decode cX0_find 36 = .ok (.iload_n 1, 1) := by decide +kernel
theorem dX0_find_37 : decode cX0_find 37 = .ok (.if_icmp .ge 11, 3) := by decide +kernel
theorem dX0_find_40 : decode cX0_find 40 = .ok (.iload 5, 2) := by decide +kernel
theorem dX0_find_42 : decode cX0_find 42 = .ok (.iconst 1, 1) := by decide +kernel
theorem dX0_find_43 : decode cX0_find 43 = .ok (.iadd, 1) := by decide +kernel
theorem dX0_find_44 : decode cX0_find 44 = .ok (.istore_n 2, 1) := by decide +kernel
theorem dX0_find_45 : decode cX0_find 45 = .ok (.goto 6, 3) := by decide +kernel
theorem dX0_find_48 : decode cX0_find 48 = .ok (.iload 5, 2) := by decide +kernel
theorem dX0_find_50 : decode cX0_find 50 = .ok (.istore_n 3, 1) := by decide +kernel
theorem dX0_find_51 : decode cX0_find 51 = .ok (.iinc 4 1, 3) := by decide +kernel
theorem dX0_find_54 : decode cX0_find 54 = .ok (.goto (-44), 3) := by decide +kernel
theorem dX0_find_57 : decode cX0_find 57 = .ok (.iload_n 2, 1) := by decide +kernel
theorem dX0_find_58 : decode cX0_find 58 = .ok (.aload_n 0, 1) := by decide +kernel
theorem dX0_find_59 : decode cX0_find 59 = .ok (.getfield 27, 3) := by decide +kernel
theorem dX0_find_62 : decode cX0_find 62 = .ok (.if_icmp .ge 17, 3) := by decide +kernel
theorem dX0_find_65 : decode cX0_find 65 = .ok (.aload_n 0, 1) := by decide +kernel
theorem dX0_find_66 : decode cX0_find 66 = .ok (.getfield 19, 3) := by decide +kernel
theorem dX0_find_69 : decode cX0_find 69 = .ok (.iload_n 2, 1) := by decide +kernel
theorem dX0_find_70 : decode cX0_find 70 = .ok (.iaload, 1) := by decide +kernel
theorem dX0_find_71 : decode cX0_find 71 = .ok (.iload_n 1, 1) := by decide +kernel
theorem dX0_find_72 : decode cX0_find 72 = .ok (.if_icmp .ne 7, 3) := by decide +kernel
theorem dX0_find_75 : decode cX0_find 75 = .ok (.iload_n 2, 1) := by decide +kernel
theorem dX0_find_76 : decode cX0_find 76 = .ok (.goto 4, 3) := by decide +kernel
theorem dX0_find_79 : decode cX0_find 79 = .ok (.iconst (-1), 1) := by decide +kernel
theorem dX0_find_80 : decode cX0_find 80 = .ok (.ireturn, 1) := by decide +kernel
theorem dX1_init_0 : decode cX1_init 0 = .ok (.aload_n 0, 1) := by decide +kernel
theorem dX1_init_1 : decode cX1_init 1 = .ok (.invokespecial 5, 3) := by decide +kernel
theorem dX1_init_4 : decode cX1_init 4 = .ok (.aload_n 0, 1) := by decide +kernel
theorem dX1_init_5 : decode cX1_init 5 = .ok (.bipush 125, 2) := by decide +kernel
theorem dX1_init_7 : decode cX1_init 7 = .ok (.newarray .boolean, 2) := by decide +kernel
theorem dX1_init_9 : decode cX1_init 9 = .ok (.putfield 11, 3) := by decide +kernel
theorem dX1_init_12 : decode cX1_init 12 = .ok (.return_, 1) := by decide +kernel
set_option maxRecDepth 20000 in
theorem ggX1_goThrough_X5_beginning : GoodIn wsX1_goThrough wsX5_beginning := goodIn_r _ [6, 7, 81, 82, 83, 84, 85] (by decide +kernel) (by decide +kernel)
set_option maxRecDepth 20000 in
theorem gX1_goThrough_X5_beginning : GoodIn wsX1_goThrough (wsV RX1 15 RX5 yX5_beginning wsX5_beginning) := goodIn_app (goodIn_of _ (by decide +kernel)) ggX1_goThrough_X5_beginning
set_option maxRecDepth 20000 in
theorem ggX1_goThrough_X1_reach : GoodIn wsX1_goThrough wsX1_reach := goodIn_r _ [11, 1, 12, 13, 10, 14, 15, 16, 17, 18, 19, 20, 21, 22, 23, 24, 25, 26, 27, 5, 28, 29, 30, 31, 32, 33, 34, 35, 36, 37, 38, 39, 40, 41, 42, 43, 44, 45, 46, 47, 48, 49, 50, 51, 52, 53, 54, 55, 56, 57, 58, 59, 60, 61, 62, 63, 64, 65, 66, 67, 68, 69, 70, 71, 72, 73, 74, 75, 76, 77, 78, 79, 8, 9, 80, 81, 82, 83, 84, 85] (by decide +kernel) (by decide +kernel)
set_option maxRecDepth 20000 in
theorem gX1_goThrough_X1_reach : GoodIn wsX1_goThrough (va_wsS RX1 21 yX1_reach wsX1_reach) := goodIn_app (goodIn_of _ (by decide +kernel)) ggX1_goThrough_X1_reach
theorem dX1_goThrough_0 : decode cX1_goThrough 0 = .ok (.iconst 0, 1) := by decide +kernel
theorem dX1_goThrough_1 : decode cX1_goThrough 1 = .ok (.istore_n 2, 1) := by decide +kernel
theorem dX1_goThrough_2 : decode cX1_goThrough 2 = .ok (.iload_n 2, 1) := by decide +kernel
theorem dX1_goThrough_3 : decode cX1_goThrough 3 = .ok (.bipush 125, 2) := by decide +kernel
theorem dX1_goThrough_5 : decode cX1_goThrough 5 = .ok (.if_icmp .ge 16, 3) := by decide +kernel
theorem dX1_goThrough_8 : decode cX1_goThrough 8 = .ok (.aload_n 0, 1) := by decide +kernel
theorem dX1_goThrough_9 : decode cX1_goThrough 9 = .ok (.getfield 11, 3) := by decide +kernel
theorem dX1_goThrough_12 : decode cX1_goThrough 12 = .ok (.iload_n 2, 1) := by decide +kernel
theorem dX1_goThrough_13 : decode cX1_goThrough 13 = .ok (.iconst 0, 1) := by decide +kernel
theorem dX1_goThrough_14 : decode cX1_goThrough 14 = .ok (.bastore, 1) := by decide +kernel
theorem dX1_goThrough_15 : decode cX1_goThrough 15 = .ok (.iinc 2 1, 3) := by decide +kernel
theorem dX1_goThrough_18 : decode cX1_goThrough 18 = .ok (.goto (-16), 3) := by decide +kernel
theorem dX1_goThrough_21 : decode cX1_goThrough 21 = .ok (.aload_n 0, 1) := by decide +kernel
theorem dX1_goThrough_22 : decode cX1_goThrough 22 = .ok (.aload_n 1, 1) := by decide +kernel
theorem dX1_goThrough_23 : decode cX1_goThrough 23 = .ok (.aload_n 1, 1) := by decide +kernel
theorem dX1_goThrough_24 : decode cX1_goThrough 24 = .ok (.invokevirtual 15, 3) := by decide +kernel
theorem dX1_goThrough_27 : decode cX1_goThrough 27 = .ok (.iconst 0, 1) := by decide +kernel
theorem dX1_goThrough_28 : decode cX1_goThrough 28 = .ok (.invokestatic 21, 3) := by decide +kernel
theorem dX1_goThrough_31 : decode cX1_goThrough 31 = .ok (.return_, 1) := by decide +kernel
set_option maxRecDepth 20000 in
theorem ggX1_reach_X1_placeOf : GoodIn wsX1_reach wsX1_placeOf := goodIn_r _ [5, 6, 7, 8, 9, 10, 11, 12] (by decide +kernel) (by decide +kernel)
set_option maxRecDepth 20000 in
theorem gX1_reach_X1_placeOf : GoodIn wsX1_reach (va_wsS RX1 25 yX1_placeOf wsX1_placeOf) := goodIn_app (goodIn_of _ (by decide +kernel)) ggX1_reach_X1_placeOf
set_option maxRecDepth 20000 in
theorem ggX1_reach_X8_below : GoodIn wsX1_reach wsX8_below := goodIn_r _ [15] (by decide +kernel) (by decide +kernel)
set_option maxRecDepth 20000 in
theorem gX1_reach_X8_below_n29 : GoodIn wsX1_reach (wsX8_below) := ggX1_reach_X8_below
set_option maxRecDepth 20000 in
theorem ggX1_reach_X5_canDo : GoodIn wsX1_reach wsX5_canDo := goodIn_r _ [20, 21, 22, 23, 19, 24, 25, 7, 8, 9, 10, 11, 12, 26, 27, 28, 29, 30, 31, 32, 33, 34, 35, 36, 37, 38, 39, 40, 41, 75, 76, 77, 78, 79] (by decide +kernel) (by decide +kernel)
set_option maxRecDepth 20000 in
theorem gX1_reach_X5_canDo : GoodIn wsX1_reach (wsV RX1 33 RX5 yX5_canDo wsX5_canDo) := goodIn_app (goodIn_of _ (by decide +kernel)) ggX1_reach_X5_canDo
set_option maxRecDepth 20000 in
theorem ggX1_reach_X5_stepDone : GoodIn wsX1_reach wsX5_stepDone := goodIn_r _ [45, 21, 22, 23, 19, 24, 25, 7, 8, 9, 10, 11, 12, 26, 27, 28, 29, 30, 31, 46, 47, 48, 49, 50, 51, 52, 53, 36, 37, 34, 38, 54, 55, 56, 57, 58, 59, 32, 33, 35, 60, 61, 62, 63, 64, 65, 66, 67, 68, 69, 70, 71, 75, 76, 77, 78, 79] (by decide +kernel) (by decide +kernel)
set_option maxRecDepth 20000 in
theorem gX1_reach_X5_stepDone : GoodIn wsX1_reach (wsV RX1 37 RX5 yX5_stepDone wsX5_stepDone) := goodIn_app (goodIn_of _ (by decide +kernel)) ggX1_reach_X5_stepDone
set_option maxRecDepth 20000 in
theorem ggX1_reach_X1_reach : GoodIn wsX1_reach wsX1_reach := goodIn_r _ [0, 1, 2, 3, 4, 5, 6, 7, 8, 9, 10, 11, 12, 13, 14, 15, 16, 17, 18, 19, 20, 21, 22, 23, 24, 25, 26, 27, 28, 29, 30, 31, 32, 33, 34, 35, 36, 37, 38, 39, 40, 41, 42, 43, 44, 45, 46, 47, 48, 49, 50, 51, 52, 53, 54, 55, 56, 57, 58, 59, 60, 61, 62, 63, 64, 65, 66, 67, 68, 69, 70, 71, 72, 73, 74, 75, 76, 77, 78, 79] (by decide +kernel) (by decide +kernel)
set_option maxRecDepth 20000 in
theorem gX1_reach_X1_reach : GoodIn wsX1_reach (va_wsS RX1 21 yX1_reach wsX1_reach) := goodIn_app (goodIn_of _ (by decide +kernel)) ggX1_reach_X1_reach
theorem dX1_reach_0 : decode cX1_reach 0 = .ok (.lload_n 2, 1) := by decide +kernel
theorem dX1_reach_1 : decode cX1_reach 1 = .ok (.invokestatic 25, 3) := by decide +kernel
theorem dX1_reach_4 : decode cX1_reach 4 = .ok (.istore 5, 2) := by decide +kernel
theorem dX1_reach_6 : decode cX1_reach 6 = .ok (.iload 4, 2) := by decide +kernel
theorem dX1_reach_8 : decode cX1_reach 8 = .ok (.bipush 12, 2) := by decide +kernel
theorem dX1_reach_10 : decode cX1_reach 10 = .ok (.if_icmp .gt 23, 3) := by decide +kernel
theorem dX1_reach_13 : decode cX1_reach 13 = .ok (.iload 5, 2) := by decide +kernel
theorem dX1_reach_15 : decode cX1_reach 15 = .ok (.bipush 125, 2) := by decide +kernel
theorem dX1_reach_17 : decode cX1_reach 17 = .ok (.invokestatic 29, 3) := by decide +kernel
theorem dX1_reach_20 : decode cX1_reach 20 = .ok (.ifCond .eq 13, 3) := by decide +kernel
theorem dX1_reach_23 : decode cX1_reach 23 = .ok (.aload_n 0, 1) := by decide +kernel
theorem dX1_reach_24 : decode cX1_reach 24 = .ok (.getfield 11, 3) := by decide +kernel
theorem dX1_reach_27 : decode cX1_reach 27 = .ok (.iload 5, 2) := by decide +kernel
theorem dX1_reach_29 : decode cX1_reach 29 = .ok (.baload, 1) := by decide +kernel
theorem dX1_reach_30 : decode cX1_reach 30 = .ok (.ifCond .eq 4, 3) := by decide +kernel
theorem dX1_reach_33 : decode cX1_reach 33 = .ok (.return_, 1) := by decide +kernel
theorem dX1_reach_34 : decode cX1_reach 34 = .ok (.aload_n 0, 1) := by decide +kernel
theorem dX1_reach_35 : decode cX1_reach 35 = .ok (.getfield 11, 3) := by decide +kernel
theorem dX1_reach_38 : decode cX1_reach 38 = .ok (.iload 5, 2) := by decide +kernel
theorem dX1_reach_40 : decode cX1_reach 40 = .ok (.iconst 1, 1) := by decide +kernel
theorem dX1_reach_41 : decode cX1_reach 41 = .ok (.bastore, 1) := by decide +kernel
theorem dX1_reach_42 : decode cX1_reach 42 = .ok (.iconst 0, 1) := by decide +kernel
theorem dX1_reach_43 : decode cX1_reach 43 = .ok (.istore 6, 2) := by decide +kernel
theorem dX1_reach_45 : decode cX1_reach 45 = .ok (.iload 6, 2) := by decide +kernel
theorem dX1_reach_47 : decode cX1_reach 47 = .ok (.iconst 3, 1) := by decide +kernel
theorem dX1_reach_48 : decode cX1_reach 48 = .ok (.if_icmp .ge 35, 3) := by decide +kernel
theorem dX1_reach_51 : decode cX1_reach 51 = .ok (.aload_n 1, 1) := by decide +kernel
theorem dX1_reach_52 : decode cX1_reach 52 = .ok (.lload_n 2, 1) := by decide +kernel
theorem dX1_reach_53 : decode cX1_reach 53 = .ok (.iload 6, 2) := by decide +kernel
theorem dX1_reach_55 : decode cX1_reach 55 = .ok (.invokevirtual 33, 3) := by decide +kernel
theorem dX1_reach_58 : decode cX1_reach 58 = .ok (.ifCond .eq 19, 3) := by decide +kernel
theorem dX1_reach_61 : decode cX1_reach 61 = .ok (.aload_n 0, 1) := by decide +kernel
theorem dX1_reach_62 : decode cX1_reach 62 = .ok (.aload_n 1, 1) := by decide +kernel
theorem dX1_reach_63 : decode cX1_reach 63 = .ok (.aload_n 1, 1) := by decide +kernel
theorem dX1_reach_64 : decode cX1_reach 64 = .ok (.lload_n 2, 1) := by decide +kernel
theorem dX1_reach_65 : decode cX1_reach 65 = .ok (.iload 6, 2) := by decide +kernel
theorem dX1_reach_67 : decode cX1_reach 67 = .ok (.invokevirtual 37, 3) := by decide +kernel
theorem dX1_reach_70 : decode cX1_reach 70 = .ok (.iload 4, 2) := by decide +kernel
theorem dX1_reach_72 : decode cX1_reach 72 = .ok (.iconst 1, 1) := by decide +kernel
theorem dX1_reach_73 : decode cX1_reach 73 = .ok (.iadd, 1) := by decide +kernel
theorem dX1_reach_74 : decode cX1_reach 74 = .ok (.invokestatic 21, 3) := by decide +kernel
theorem dX1_reach_77 : decode cX1_reach 77 = .ok (.iinc 6 1, 3) := by decide +kernel
theorem dX1_reach_80 : decode cX1_reach 80 = .ok (.goto (-35), 3) := by decide +kernel
theorem dX1_reach_83 : decode cX1_reach 83 = .ok (.return_, 1) := by decide +kernel
set_option maxRecDepth 20000 in
theorem ggX1_placeOf_X2_doneOf : GoodIn wsX1_placeOf wsX2_doneOf := goodIn_r _ [4, 5, 6, 3, 7] (by decide +kernel) (by decide +kernel)
set_option maxRecDepth 20000 in
theorem gX1_placeOf_X2_doneOf : GoodIn wsX1_placeOf (va_wsS RX1 41 yX2_doneOf wsX2_doneOf) := goodIn_app (goodIn_of _ (by decide +kernel)) ggX1_placeOf_X2_doneOf
theorem dX1_placeOf_0 : decode cX1_placeOf 0 = .ok (.iconst 0, 1) := by decide +kernel
theorem dX1_placeOf_1 : decode cX1_placeOf 1 = .ok (.istore_n 2, 1) := by decide +kernel
theorem dX1_placeOf_2 : decode cX1_placeOf 2 = .ok (.iconst 0, 1) := by decide +kernel
theorem dX1_placeOf_3 : decode cX1_placeOf 3 = .ok (.istore_n 3, 1) := by decide +kernel
theorem dX1_placeOf_4 : decode cX1_placeOf 4 = .ok (.iload_n 3, 1) := by decide +kernel
theorem dX1_placeOf_5 : decode cX1_placeOf 5 = .ok (.iconst 3, 1) := by decide +kernel
theorem dX1_placeOf_6 : decode cX1_placeOf 6 = .ok (.if_icmp .ge 19, 3) := by decide +kernel
theorem dX1_placeOf_9 : decode cX1_placeOf 9 = .ok (.iload_n 2, 1) := by decide +kernel
theorem dX1_placeOf_10 : decode cX1_placeOf 10 = .ok (.iconst 5, 1) := by decide +kernel
theorem dX1_placeOf_11 : decode cX1_placeOf 11 = .ok (.imul, 1) := by decide +kernel
theorem dX1_placeOf_12 : decode cX1_placeOf 12 = .ok (.lload_n 0, 1) := by decide +kernel
theorem dX1_placeOf_13 : decode cX1_placeOf 13 = .ok (.iload_n 3, 1) := by decide +kernel
theorem dX1_placeOf_14 : decode cX1_placeOf 14 = .ok (.invokestatic 41, 3) := by decide +kernel
theorem dX1_placeOf_17 : decode cX1_placeOf 17 = .ok (.iadd, 1) := by decide +kernel
theorem dX1_placeOf_18 : decode cX1_placeOf 18 = .ok (.istore_n 2, 1) := by decide +kernel
theorem dX1_placeOf_19 : decode cX1_placeOf 19 = .ok (.iinc 3 1, 3) := by decide +kernel
theorem dX1_placeOf_22 : decode cX1_placeOf 22 = .ok (.goto (-18), 3) := by decide +kernel
theorem dX1_placeOf_25 : decode cX1_placeOf 25 = .ok (.iload_n 2, 1) := by decide +kernel
theorem dX1_placeOf_26 : decode cX1_placeOf 26 = .ok (.ireturn, 1) := by decide +kernel
set_option maxRecDepth 20000 in
theorem ggX1_isRace_X5_stepAt : GoodIn wsX1_isRace wsX5_stepAt := goodIn_r _ [6, 7, 8, 51, 52, 53, 54, 55] (by decide +kernel) (by decide +kernel)
set_option maxRecDepth 20000 in
theorem gX1_isRace_X5_stepAt : GoodIn wsX1_isRace (wsV RX1 47 RX5 yX5_stepAt wsX5_stepAt) := goodIn_app (goodIn_of _ (by decide +kernel)) ggX1_isRace_X5_stepAt
set_option maxRecDepth 20000 in
theorem ggX1_isRace_X6_tiedByNumber : GoodIn wsX1_isRace wsX6_tiedByNumber := goodIn_r _ [12, 13, 14, 11, 15, 16, 17, 18, 19, 20, 21, 22, 23, 24, 25, 26, 27] (by decide +kernel) (by decide +kernel)
set_option maxRecDepth 20000 in
theorem gX1_isRace_X6_tiedByNumber : GoodIn wsX1_isRace (va_wsS RX1 51 yX6_tiedByNumber wsX6_tiedByNumber) := goodIn_app (goodIn_of _ (by decide +kernel)) ggX1_isRace_X6_tiedByNumber
set_option maxRecDepth 20000 in
theorem ggX1_isRace_X2_withDone : GoodIn wsX1_isRace wsX2_withDone := goodIn_r _ [31, 32, 33, 30, 34, 35, 36] (by decide +kernel) (by decide +kernel)
set_option maxRecDepth 20000 in
theorem gX1_isRace_X2_withDone : GoodIn wsX1_isRace (va_wsS RX1 56 yX2_withDone wsX2_withDone) := goodIn_app (goodIn_of _ (by decide +kernel)) ggX1_isRace_X2_withDone
set_option maxRecDepth 20000 in
theorem ggX1_isRace_X1_placeOf : GoodIn wsX1_isRace wsX1_placeOf := goodIn_r _ [40, 41, 42, 30, 43, 44, 45, 46] (by decide +kernel) (by decide +kernel)
set_option maxRecDepth 20000 in
theorem gX1_isRace_X1_placeOf : GoodIn wsX1_isRace (va_wsS RX1 25 yX1_placeOf wsX1_placeOf) := goodIn_app (goodIn_of _ (by decide +kernel)) ggX1_isRace_X1_placeOf
set_option maxRecDepth 20000 in
theorem ggX1_isRace_X8_below : GoodIn wsX1_isRace wsX8_below := goodIn_r _ [49] (by decide +kernel) (by decide +kernel)
set_option maxRecDepth 20000 in
theorem gX1_isRace_X8_below_n29 : GoodIn wsX1_isRace (wsX8_below) := ggX1_isRace_X8_below
theorem dX1_isRace_0 : decode cX1_isRace 0 = .ok (.aload_n 1, 1) := by decide +kernel
theorem dX1_isRace_1 : decode cX1_isRace 1 = .ok (.iload_n 2, 1) := by decide +kernel
theorem dX1_isRace_2 : decode cX1_isRace 2 = .ok (.iload_n 3, 1) := by decide +kernel
theorem dX1_isRace_3 : decode cX1_isRace 3 = .ok (.invokevirtual 47, 3) := by decide +kernel
theorem dX1_isRace_6 : decode cX1_isRace 6 = .ok (.aload_n 1, 1) := by decide +kernel
theorem dX1_isRace_7 : decode cX1_isRace 7 = .ok (.iload 4, 2) := by decide +kernel
theorem dX1_isRace_9 : decode cX1_isRace 9 = .ok (.iload 5, 2) := by decide +kernel
theorem dX1_isRace_11 : decode cX1_isRace 11 = .ok (.invokevirtual 47, 3) := by decide +kernel
theorem dX1_isRace_14 : decode cX1_isRace 14 = .ok (.invokestatic 51, 3) := by decide +kernel
theorem dX1_isRace_17 : decode cX1_isRace 17 = .ok (.ifCond .ne 5, 3) := by decide +kernel
theorem dX1_isRace_20 : decode cX1_isRace 20 = .ok (.iconst 0, 1) := by decide +kernel
theorem dX1_isRace_21 : decode cX1_isRace 21 = .ok (.ireturn, 1) := by decide +kernel
theorem dX1_isRace_22 : decode cX1_isRace 22 = .ok (.iconst 3, 1) := by decide +kernel
theorem dX1_isRace_23 : decode cX1_isRace 23 = .ok (.iload_n 2, 1) := by decide +kernel
theorem dX1_isRace_24 : decode cX1_isRace 24 = .ok (.isub, 1) := by decide +kernel
theorem dX1_isRace_25 : decode cX1_isRace 25 = .ok (.iload 4, 2) := by decide +kernel
theorem dX1_isRace_27 : decode cX1_isRace 27 = .ok (.isub, 1) := by decide +kernel
theorem dX1_isRace_28 : decode cX1_isRace 28 = .ok (.istore 6, 2) := by decide +kernel
theorem dX1_isRace_30 : decode cX1_isRace 30 = .ok (.lconst 0, 1) := by decide +kernel
theorem dX1_isRace_31 : decode cX1_isRace 31 = .ok (.iload_n 2, 1) := by decide +kernel
theorem dX1_isRace_32 : decode cX1_isRace 32 = .ok (.iload_n 3, 1) := by decide +kernel
theorem dX1_isRace_33 : decode cX1_isRace 33 = .ok (.invokestatic 56, 3) := by decide +kernel
theorem dX1_isRace_36 : decode cX1_isRace 36 = .ok (.iload 4, 2) := by decide +kernel
theorem dX1_isRace_38 : decode cX1_isRace 38 = .ok (.iload 5, 2) := by decide +kernel
theorem dX1_isRace_40 : decode cX1_isRace 40 = .ok (.invokestatic 56, 3) := by decide +kernel
theorem dX1_isRace_43 : decode cX1_isRace 43 = .ok (.lstore 7, 2) := by decide +kernel
theorem dX1_isRace_45 : decode cX1_isRace 45 = .ok (.iconst 0, 1) := by decide +kernel
theorem dX1_isRace_46 : decode cX1_isRace 46 = .ok (.istore 9, 2) := by decide +kernel
theorem dX1_isRace_48 : decode cX1_isRace 48 = .ok (.iload 9, 2) := by decide +kernel
theorem dX1_isRace_50 : decode cX1_isRace 50 = .ok (.iconst 4, 1) := by decide +kernel
theorem dX1_isRace_51 : decode cX1_isRace 51 = .ok (.if_icmp .gt 45, 3) := by decide +kernel
theorem dX1_isRace_54 : decode cX1_isRace 54 = .ok (.lload 7, 2) := by decide +kernel
theorem dX1_isRace_56 : decode cX1_isRace 56 = .ok (.iload 6, 2) := by decide +kernel
theorem dX1_isRace_58 : decode cX1_isRace 58 = .ok (.iload 9, 2) := by decide +kernel
theorem dX1_isRace_60 : decode cX1_isRace 60 = .ok (.invokestatic 56, 3) := by decide +kernel
theorem dX1_isRace_63 : decode cX1_isRace 63 = .ok (.invokestatic 25, 3) := by decide +kernel
theorem dX1_isRace_66 : decode cX1_isRace 66 = .ok (.istore 10, 2) := by decide +kernel
theorem dX1_isRace_68 : decode cX1_isRace 68 = .ok (.iload 10, 2) := by decide +kernel
theorem dX1_isRace_70 : decode cX1_isRace 70 = .ok (.bipush 125, 2) := by decide +kernel
theorem dX1_isRace_72 : decode cX1_isRace 72 = .ok (.invokestatic 29, 3) := by decide +kernel
theorem dX1_isRace_75 : decode cX1_isRace 75 = .ok (.ifCond .eq 15, 3) := by decide +kernel
theorem dX1_isRace_78 : decode cX1_isRace 78 = .ok (.aload_n 0, 1) := by decide +kernel
theorem dX1_isRace_79 : decode cX1_isRace 79 = .ok (.getfield 11, 3) := by decide +kernel
theorem dX1_isRace_82 : decode cX1_isRace 82 = .ok (.iload 10, 2) := by decide +kernel
theorem dX1_isRace_84 : decode cX1_isRace 84 = .ok (.baload, 1) := by decide +kernel
theorem dX1_isRace_85 : decode cX1_isRace 85 = .ok (.ifCond .eq 5, 3) := by decide +kernel
theorem dX1_isRace_88 : decode cX1_isRace 88 = .ok (.iconst 1, 1) := by decide +kernel
theorem dX1_isRace_89 : decode cX1_isRace 89 = .ok (.ireturn, 1) := by decide +kernel
theorem dX1_isRace_90 : decode cX1_isRace 90 = .ok (.iinc 9 1, 3) := by decide +kernel
theorem dX1_isRace_93 : decode cX1_isRace 93 = .ok (.goto (-45), 3) := by decide +kernel
theorem dX1_isRace_96 : decode cX1_isRace 96 = .ok (.iconst 0, 1) := by decide +kernel
theorem dX1_isRace_97 : decode cX1_isRace 97 = .ok (.ireturn, 1) := by decide +kernel
theorem dX2_at_0 : decode cX2_at 0 = .ok (.lload_n 0, 1) := by decide +kernel
theorem dX2_at_1 : decode cX2_at 1 = .ok (.iconst 4, 1) := by decide +kernel
theorem dX2_at_2 : decode cX2_at 2 = .ok (.iload_n 2, 1) := by decide +kernel
theorem dX2_at_3 : decode cX2_at 3 = .ok (.imul, 1) := by decide +kernel
theorem dX2_at_4 : decode cX2_at 4 = .ok (.lushr, 1) := by decide +kernel
theorem dX2_at_5 : decode cX2_at 5 = .ok (.l2i, 1) := by decide +kernel
theorem dX2_at_6 : decode cX2_at 6 = .ok (.bipush 15, 2) := by decide +kernel
theorem dX2_at_8 : decode cX2_at 8 = .ok (.iand, 1) := by decide +kernel
theorem dX2_at_9 : decode cX2_at 9 = .ok (.ireturn, 1) := by decide +kernel
theorem dX2_with_0 : decode cX2_with 0 = .ok (.iconst 4, 1) := by decide +kernel
theorem dX2_with_1 : decode cX2_with 1 = .ok (.iload_n 2, 1) := by decide +kernel
theorem dX2_with_2 : decode cX2_with 2 = .ok (.imul, 1) := by decide +kernel
theorem dX2_with_3 : decode cX2_with 3 = .ok (.istore 4, 2) := by decide +kernel
theorem dX2_with_5 : decode cX2_with 5 = .ok (.lload_n 0, 1) := by decide +kernel
theorem dX2_with_6 : decode cX2_with 6 = .ok (.ldc2_w 11, 3) := by decide +kernel
theorem dX2_with_9 : decode cX2_with 9 = .ok (.iload 4, 2) := by decide +kernel
theorem dX2_with_11 : decode cX2_with 11 = .ok (.lshl, 1) := by decide +kernel
theorem dX2_with_12 : decode cX2_with 12 = .ok (.ldc2_w 13, 3) := by decide +kernel
theorem dX2_with_15 : decode cX2_with 15 = .ok (.lxor, 1) := by decide +kernel
theorem dX2_with_16 : decode cX2_with 16 = .ok (.land, 1) := by decide +kernel
theorem dX2_with_17 : decode cX2_with 17 = .ok (.iload_n 3, 1) := by decide +kernel
theorem dX2_with_18 : decode cX2_with 18 = .ok (.i2l, 1) := by decide +kernel
theorem dX2_with_19 : decode cX2_with 19 = .ok (.iload 4, 2) := by decide +kernel
theorem dX2_with_21 : decode cX2_with 21 = .ok (.lshl, 1) := by decide +kernel
theorem dX2_with_22 : decode cX2_with 22 = .ok (.lor, 1) := by decide +kernel
theorem dX2_with_23 : decode cX2_with 23 = .ok (.lreturn, 1) := by decide +kernel
set_option maxRecDepth 20000 in
theorem ggX2_doneOf_X2_at : GoodIn wsX2_doneOf wsX2_at := goodIn_r _ [4] (by decide +kernel) (by decide +kernel)
set_option maxRecDepth 20000 in
theorem gX2_doneOf_X2_at : GoodIn wsX2_doneOf (va_wsS RX2 15 yX2_at wsX2_at) := goodIn_app (goodIn_of _ (by decide +kernel)) ggX2_doneOf_X2_at
theorem dX2_doneOf_0 : decode cX2_doneOf 0 = .ok (.lload_n 0, 1) := by decide +kernel
theorem dX2_doneOf_1 : decode cX2_doneOf 1 = .ok (.iload_n 2, 1) := by decide +kernel
theorem dX2_doneOf_2 : decode cX2_doneOf 2 = .ok (.invokestatic 15, 3) := by decide +kernel
theorem dX2_doneOf_5 : decode cX2_doneOf 5 = .ok (.ireturn, 1) := by decide +kernel
set_option maxRecDepth 20000 in
theorem ggX2_withDone_X2_with : GoodIn wsX2_withDone wsX2_with := goodIn_r _ [4, 5, 6] (by decide +kernel) (by decide +kernel)
set_option maxRecDepth 20000 in
theorem gX2_withDone_X2_with : GoodIn wsX2_withDone (va_wsS RX2 19 yX2_with wsX2_with) := goodIn_app (goodIn_of _ (by decide +kernel)) ggX2_withDone_X2_with
theorem dX2_withDone_0 : decode cX2_withDone 0 = .ok (.lload_n 0, 1) := by decide +kernel
theorem dX2_withDone_1 : decode cX2_withDone 1 = .ok (.iload_n 2, 1) := by decide +kernel
theorem dX2_withDone_2 : decode cX2_withDone 2 = .ok (.iload_n 3, 1) := by decide +kernel
theorem dX2_withDone_3 : decode cX2_withDone 3 = .ok (.invokestatic 19, 3) := by decide +kernel
theorem dX2_withDone_6 : decode cX2_withDone 6 = .ok (.lreturn, 1) := by decide +kernel
set_option maxRecDepth 20000 in
theorem ggX2_wrongOnes_X2_at : GoodIn wsX2_wrongOnes wsX2_at := goodIn_r _ [4] (by decide +kernel) (by decide +kernel)
set_option maxRecDepth 20000 in
theorem gX2_wrongOnes_X2_at : GoodIn wsX2_wrongOnes (va_wsS RX2 15 yX2_at wsX2_at) := goodIn_app (goodIn_of _ (by decide +kernel)) ggX2_wrongOnes_X2_at
theorem dX2_wrongOnes_0 : decode cX2_wrongOnes 0 = .ok (.lload_n 0, 1) := by decide +kernel
theorem dX2_wrongOnes_1 : decode cX2_wrongOnes 1 = .ok (.iconst 3, 1) := by decide +kernel
theorem dX2_wrongOnes_2 : decode cX2_wrongOnes 2 = .ok (.invokestatic 15, 3) := by decide +kernel
theorem dX2_wrongOnes_5 : decode cX2_wrongOnes 5 = .ok (.ireturn, 1) := by decide +kernel
set_option maxRecDepth 20000 in
theorem ggX2_withOneWrongMore_X2_wrongOnes : GoodIn wsX2_withOneWrongMore wsX2_wrongOnes := goodIn_r _ [4, 5, 6, 3, 7] (by decide +kernel) (by decide +kernel)
set_option maxRecDepth 20000 in
theorem gX2_withOneWrongMore_X2_wrongOnes : GoodIn wsX2_withOneWrongMore (va_wsS RX2 23 yX2_wrongOnes wsX2_wrongOnes) := goodIn_app (goodIn_of _ (by decide +kernel)) ggX2_withOneWrongMore_X2_wrongOnes
set_option maxRecDepth 20000 in
theorem ggX2_withOneWrongMore_X2_with : GoodIn wsX2_withOneWrongMore wsX2_with := goodIn_r _ [10, 11, 12] (by decide +kernel) (by decide +kernel)
set_option maxRecDepth 20000 in
theorem gX2_withOneWrongMore_X2_with : GoodIn wsX2_withOneWrongMore (va_wsS RX2 19 yX2_with wsX2_with) := goodIn_app (goodIn_of _ (by decide +kernel)) ggX2_withOneWrongMore_X2_with
theorem dX2_withOneWrongMore_0 : decode cX2_withOneWrongMore 0 = .ok (.lload_n 0, 1) := by decide +kernel
theorem dX2_withOneWrongMore_1 : decode cX2_withOneWrongMore 1 = .ok (.iconst 3, 1) := by decide +kernel
theorem dX2_withOneWrongMore_2 : decode cX2_withOneWrongMore 2 = .ok (.lload_n 0, 1) := by decide +kernel
theorem dX2_withOneWrongMore_3 : decode cX2_withOneWrongMore 3 = .ok (.invokestatic 23, 3) := by decide +kernel
theorem dX2_withOneWrongMore_6 : decode cX2_withOneWrongMore 6 = .ok (.iconst 1, 1) := by decide +kernel
theorem dX2_withOneWrongMore_7 : decode cX2_withOneWrongMore 7 = .ok (.iadd, 1) := by decide +kernel
theorem dX2_withOneWrongMore_8 : decode cX2_withOneWrongMore 8 = .ok (.invokestatic 19, 3) := by decide +kernel
theorem dX2_withOneWrongMore_11 : decode cX2_withOneWrongMore 11 = .ok (.lreturn, 1) := by decide +kernel
set_option maxRecDepth 20000 in
theorem ggX2_valueOf_X2_at : GoodIn wsX2_valueOf wsX2_at := goodIn_r _ [4] (by decide +kernel) (by decide +kernel)
set_option maxRecDepth 20000 in
theorem gX2_valueOf_X2_at : GoodIn wsX2_valueOf (va_wsS RX2 15 yX2_at wsX2_at) := goodIn_app (goodIn_of _ (by decide +kernel)) ggX2_valueOf_X2_at
theorem dX2_valueOf_0 : decode cX2_valueOf 0 = .ok (.lload_n 0, 1) := by decide +kernel
theorem dX2_valueOf_1 : decode cX2_valueOf 1 = .ok (.iconst 4, 1) := by decide +kernel
theorem dX2_valueOf_2 : decode cX2_valueOf 2 = .ok (.iload_n 2, 1) := by decide +kernel
theorem dX2_valueOf_3 : decode cX2_valueOf 3 = .ok (.iadd, 1) := by decide +kernel
theorem dX2_valueOf_4 : decode cX2_valueOf 4 = .ok (.invokestatic 15, 3) := by decide +kernel
theorem dX2_valueOf_7 : decode cX2_valueOf 7 = .ok (.ireturn, 1) := by decide +kernel
set_option maxRecDepth 20000 in
theorem ggX2_withValue_X2_with : GoodIn wsX2_withValue wsX2_with := goodIn_r _ [4, 5, 6] (by decide +kernel) (by decide +kernel)
set_option maxRecDepth 20000 in
theorem gX2_withValue_X2_with : GoodIn wsX2_withValue (va_wsS RX2 19 yX2_with wsX2_with) := goodIn_app (goodIn_of _ (by decide +kernel)) ggX2_withValue_X2_with
theorem dX2_withValue_0 : decode cX2_withValue 0 = .ok (.lload_n 0, 1) := by decide +kernel
theorem dX2_withValue_1 : decode cX2_withValue 1 = .ok (.iconst 4, 1) := by decide +kernel
theorem dX2_withValue_2 : decode cX2_withValue 2 = .ok (.iload_n 2, 1) := by decide +kernel
theorem dX2_withValue_3 : decode cX2_withValue 3 = .ok (.iadd, 1) := by decide +kernel
theorem dX2_withValue_4 : decode cX2_withValue 4 = .ok (.iload_n 3, 1) := by decide +kernel
theorem dX2_withValue_5 : decode cX2_withValue 5 = .ok (.invokestatic 19, 3) := by decide +kernel
theorem dX2_withValue_8 : decode cX2_withValue 8 = .ok (.lreturn, 1) := by decide +kernel
set_option maxRecDepth 20000 in
theorem ggX2_holderOf_X2_at : GoodIn wsX2_holderOf wsX2_at := goodIn_r _ [4] (by decide +kernel) (by decide +kernel)
set_option maxRecDepth 20000 in
theorem gX2_holderOf_X2_at : GoodIn wsX2_holderOf (va_wsS RX2 15 yX2_at wsX2_at) := goodIn_app (goodIn_of _ (by decide +kernel)) ggX2_holderOf_X2_at
theorem dX2_holderOf_0 : decode cX2_holderOf 0 = .ok (.lload_n 0, 1) := by decide +kernel
theorem dX2_holderOf_1 : decode cX2_holderOf 1 = .ok (.bipush 8, 2) := by decide +kernel
theorem dX2_holderOf_3 : decode cX2_holderOf 3 = .ok (.iload_n 2, 1) := by decide +kernel
theorem dX2_holderOf_4 : decode cX2_holderOf 4 = .ok (.iadd, 1) := by decide +kernel
theorem dX2_holderOf_5 : decode cX2_holderOf 5 = .ok (.invokestatic 15, 3) := by decide +kernel
theorem dX2_holderOf_8 : decode cX2_holderOf 8 = .ok (.iconst 1, 1) := by decide +kernel
theorem dX2_holderOf_9 : decode cX2_holderOf 9 = .ok (.isub, 1) := by decide +kernel
theorem dX2_holderOf_10 : decode cX2_holderOf 10 = .ok (.ireturn, 1) := by decide +kernel
set_option maxRecDepth 20000 in
theorem ggX2_withHolder_X2_with : GoodIn wsX2_withHolder wsX2_with := goodIn_r _ [4, 5, 6] (by decide +kernel) (by decide +kernel)
set_option maxRecDepth 20000 in
theorem gX2_withHolder_X2_with : GoodIn wsX2_withHolder (va_wsS RX2 19 yX2_with wsX2_with) := goodIn_app (goodIn_of _ (by decide +kernel)) ggX2_withHolder_X2_with
theorem dX2_withHolder_0 : decode cX2_withHolder 0 = .ok (.lload_n 0, 1) := by decide +kernel
theorem dX2_withHolder_1 : decode cX2_withHolder 1 = .ok (.bipush 8, 2) := by decide +kernel
theorem dX2_withHolder_3 : decode cX2_withHolder 3 = .ok (.iload_n 2, 1) := by decide +kernel
theorem dX2_withHolder_4 : decode cX2_withHolder 4 = .ok (.iadd, 1) := by decide +kernel
theorem dX2_withHolder_5 : decode cX2_withHolder 5 = .ok (.iload_n 3, 1) := by decide +kernel
theorem dX2_withHolder_6 : decode cX2_withHolder 6 = .ok (.iconst 1, 1) := by decide +kernel
theorem dX2_withHolder_7 : decode cX2_withHolder 7 = .ok (.iadd, 1) := by decide +kernel
theorem dX2_withHolder_8 : decode cX2_withHolder 8 = .ok (.invokestatic 19, 3) := by decide +kernel
theorem dX2_withHolder_11 : decode cX2_withHolder 11 = .ok (.lreturn, 1) := by decide +kernel
set_option maxRecDepth 20000 in
theorem ggX2_ending_X2_valueOf : GoodIn wsX2_ending wsX2_valueOf := goodIn_r _ [4, 5, 6, 3, 7] (by decide +kernel) (by decide +kernel)
set_option maxRecDepth 20000 in
theorem gX2_ending_X2_valueOf : GoodIn wsX2_ending (va_wsS RX2 27 yX2_valueOf wsX2_valueOf) := goodIn_app (goodIn_of _ (by decide +kernel)) ggX2_ending_X2_valueOf
theorem dX2_ending_0 : decode cX2_ending 0 = .ok (.iconst 0, 1) := by decide +kernel
theorem dX2_ending_1 : decode cX2_ending 1 = .ok (.istore_n 2, 1) := by decide +kernel
theorem dX2_ending_2 : decode cX2_ending 2 = .ok (.iconst 0, 1) := by decide +kernel
theorem dX2_ending_3 : decode cX2_ending 3 = .ok (.istore_n 3, 1) := by decide +kernel
theorem dX2_ending_4 : decode cX2_ending 4 = .ok (.iload_n 3, 1) := by decide +kernel
theorem dX2_ending_5 : decode cX2_ending 5 = .ok (.iconst 4, 1) := by decide +kernel
theorem dX2_ending_6 : decode cX2_ending 6 = .ok (.if_icmp .ge 20, 3) := by decide +kernel
theorem dX2_ending_9 : decode cX2_ending 9 = .ok (.iload_n 2, 1) := by decide +kernel
theorem dX2_ending_10 : decode cX2_ending 10 = .ok (.bipush 10, 2) := by decide +kernel
theorem dX2_ending_12 : decode cX2_ending 12 = .ok (.imul, 1) := by decide +kernel
theorem dX2_ending_13 : decode cX2_ending 13 = .ok (.lload_n 0, 1) := by decide +kernel
theorem dX2_ending_14 : decode cX2_ending 14 = .ok (.iload_n 3, 1) := by decide +kernel
theorem dX2_ending_15 : decode cX2_ending 15 = .ok (.invokestatic 27, 3) := by decide +kernel
theorem dX2_ending_18 : decode cX2_ending 18 = .ok (.iadd, 1) := by decide +kernel
theorem dX2_ending_19 : decode cX2_ending 19 = .ok (.istore_n 2, 1) := by decide +kernel
theorem dX2_ending_20 : decode cX2_ending 20 = .ok (.iinc 3 1, 3) := by decide +kernel
theorem dX2_ending_23 : decode cX2_ending 23 = .ok (.goto (-19), 3) := by decide +kernel
theorem dX2_ending_26 : decode cX2_ending 26 = .ok (.iload_n 2, 1) := by decide +kernel
theorem dX2_ending_27 : decode cX2_ending 27 = .ok (.ireturn, 1) := by decide +kernel
set_option maxRecDepth 20000 in
theorem ggX3_init_X5_init : GoodIn wsX3_init wsX5_init := goodIn_r _ [9, 10, 2, 3, 11, 12, 13, 17, 18, 19, 20, 21] (by decide +kernel) (by decide +kernel)
set_option maxRecDepth 20000 in
theorem gX3_init_X5_init_n17 : GoodIn wsX3_init (wsX5_init) := ggX3_init_X5_init
theorem dX3_init_0 : decode cX3_init 0 = .ok (.aload_n 0, 1) := by decide +kernel
theorem dX3_init_1 : decode cX3_init 1 = .ok (.invokespecial 3, 3) := by decide +kernel
theorem dX3_init_4 : decode cX3_init 4 = .ok (.aload_n 0, 1) := by decide +kernel
theorem dX3_init_5 : decode cX3_init 5 = .ok (.iconst 5, 1) := by decide +kernel
theorem dX3_init_6 : decode cX3_init 6 = .ok (.anewarray 9, 3) := by decide +kernel
theorem dX3_init_9 : decode cX3_init 9 = .ok (.putfield 11, 3) := by decide +kernel
theorem dX3_init_12 : decode cX3_init 12 = .ok (.iconst 0, 1) := by decide +kernel
theorem dX3_init_13 : decode cX3_init 13 = .ok (.istore_n 1, 1) := by decide +kernel
theorem dX3_init_14 : decode cX3_init 14 = .ok (.iload_n 1, 1) := by decide +kernel
theorem dX3_init_15 : decode cX3_init 15 = .ok (.iconst 5, 1) := by decide +kernel
theorem dX3_init_16 : decode cX3_init 16 = .ok (.if_icmp .ge 22, 3) := by decide +kernel
theorem dX3_init_19 : decode cX3_init 19 = .ok (.aload_n 0, 1) := by decide +kernel
theorem dX3_init_20 : decode cX3_init 20 = .ok (.getfield 11, 3) := by decide +kernel
theorem dX3_init_23 : decode cX3_init 23 = .ok (.iload_n 1, 1) := by decide +kernel
theorem dX3_init_24 : decode cX3_init 24 = .ok (.new 9, 3) := by decide +kernel
theorem dX3_init_27 : decode cX3_init 27 = .ok (.dup, 1) := by decide +kernel
theorem dX3_init_28 : decode cX3_init 28 = .ok (.invokespecial 17, 3) := by decide +kernel
theorem dX3_init_31 : decode cX3_init 31 = .ok (.aastore, 1) := by decide +kernel
theorem dX3_init_32 : decode cX3_init 32 = .ok (.iinc 1 1, 3) := by decide +kernel
theorem dX3_init_35 : decode cX3_init 35 = .ok (.goto (-21), 3) := by decide +kernel
theorem dX3_init_38 : decode cX3_init 38 = .ok (.return_, 1) := by decide +kernel
theorem dX3_size_0 : decode cX3_size 0 = .ok (.aload_n 0, 1) := by decide +kernel
theorem dX3_size_1 : decode cX3_size 1 = .ok (.getfield 18, 3) := by decide +kernel
theorem dX3_size_4 : decode cX3_size 4 = .ok (.ireturn, 1) := by decide +kernel
set_option maxRecDepth 20000 in
theorem ggX3_keep_X5_takeFrom : GoodIn wsX3_keep wsX5_takeFrom := goodIn_r _ [8, 9, 10, 11, 12, 13, 14, 15, 16, 17, 21, 22, 23, 24, 25] (by decide +kernel) (by decide +kernel)
set_option maxRecDepth 20000 in
theorem gX3_keep_X5_takeFrom : GoodIn wsX3_keep (wsV RX3 25 RX5 yX5_takeFrom wsX5_takeFrom) := goodIn_app (goodIn_of _ (by decide +kernel)) ggX3_keep_X5_takeFrom
theorem dX3_keep_0 : decode cX3_keep 0 = .ok (.aload_n 0, 1) := by decide +kernel
theorem dX3_keep_1 : decode cX3_keep 1 = .ok (.getfield 11, 3) := by decide +kernel
theorem dX3_keep_4 : decode cX3_keep 4 = .ok (.aload_n 0, 1) := by decide +kernel
theorem dX3_keep_5 : decode cX3_keep 5 = .ok (.getfield 22, 3) := by decide +kernel
theorem dX3_keep_8 : decode cX3_keep 8 = .ok (.aload_n 0, 1) := by decide +kernel
theorem dX3_keep_9 : decode cX3_keep 9 = .ok (.getfield 18, 3) := by decide +kernel
theorem dX3_keep_12 : decode cX3_keep 12 = .ok (.iadd, 1) := by decide +kernel
theorem dX3_keep_13 : decode cX3_keep 13 = .ok (.iconst 5, 1) := by decide +kernel
theorem dX3_keep_14 : decode cX3_keep 14 = .ok (.irem, 1) := by decide +kernel
theorem dX3_keep_15 : decode cX3_keep 15 = .ok (.aaload, 1) := by decide +kernel
theorem dX3_keep_16 : decode cX3_keep 16 = .ok (.aload_n 1, 1) := by decide +kernel
theorem dX3_keep_17 : decode cX3_keep 17 = .ok (.invokevirtual 25, 3) := by decide +kernel
theorem dX3_keep_20 : decode cX3_keep 20 = .ok (.aload_n 0, 1) := by decide +kernel
theorem dX3_keep_21 : decode cX3_keep 21 = .ok (.getfield 18, 3) := by decide +kernel
theorem dX3_keep_24 : decode cX3_keep 24 = .ok (.iconst 5, 1) := by decide +kernel
theorem dX3_keep_25 : decode cX3_keep 25 = .ok (.if_icmp .ge 16, 3) := by decide +kernel
theorem dX3_keep_28 : decode cX3_keep 28 = .ok (.aload_n 0, 1) := by decide +kernel
theorem dX3_keep_29 : decode cX3_keep 29 = .ok (.dup, 1) := by decide +kernel
theorem dX3_keep_30 : decode cX3_keep 30 = .ok (.getfield 18, 3) := by decide +kernel
theorem dX3_keep_33 : decode cX3_keep 33 = .ok (.iconst 1, 1) := by decide +kernel
theorem dX3_keep_34 : decode cX3_keep 34 = .ok (.iadd, 1) := by decide +kernel
theorem dX3_keep_35 : decode cX3_keep 35 = .ok (.putfield 18, 3) := by decide +kernel
theorem dX3_keep_38 : decode cX3_keep 38 = .ok (.goto 15, 3) := by decide +kernel
theorem dX3_keep_41 : decode cX3_keep 41 = .ok (.aload_n 0, 1) := by decide +kernel
theorem dX3_keep_42 : decode cX3_keep 42 = .ok (.aload_n 0, 1) := by decide +kernel
theorem dX3_keep_43 : decode cX3_keep 43 = .ok (.getfield 22, 3) := by decide +kernel
theorem dX3_keep_46 : decode cX3_keep 46 = .ok (.iconst 1, 1) := by decide +kernel
theorem dX3_keep_47 : decode cX3_keep 47 = .ok (.iadd, 1) := by decide +kernel
theorem dX3_keep_48 : decode cX3_keep 48 = .ok (.iconst 5, 1) := by decide +kernel
theorem dX3_keep_49 : decode cX3_keep 49 = .ok (.irem, 1) := by decide +kernel
theorem dX3_keep_50 : decode cX3_keep 50 = .ok (.putfield 22, 3) := by decide +kernel
theorem dX3_keep_53 : decode cX3_keep 53 = .ok (.return_, 1) := by decide +kernel
set_option maxRecDepth 20000 in
theorem ggX3_bringBack_X5_takeFrom : GoodIn wsX3_bringBack wsX5_takeFrom := goodIn_r _ [8, 9, 10, 11, 12, 13, 14, 15, 16, 17, 21, 22, 23, 24, 25] (by decide +kernel) (by decide +kernel)
set_option maxRecDepth 20000 in
theorem gX3_bringBack_X5_takeFrom : GoodIn wsX3_bringBack (wsV RX3 25 RX5 yX5_takeFrom wsX5_takeFrom) := goodIn_app (goodIn_of _ (by decide +kernel)) ggX3_bringBack_X5_takeFrom
theorem dX3_bringBack_0 : decode cX3_bringBack 0 = .ok (.aload_n 0, 1) := by decide +kernel
theorem dX3_bringBack_1 : decode cX3_bringBack 1 = .ok (.getfield 18, 3) := by decide +kernel
theorem dX3_bringBack_4 : decode cX3_bringBack 4 = .ok (.ifCond .le 33, 3) := by decide +kernel
theorem dX3_bringBack_7 : decode cX3_bringBack 7 = .ok (.aload_n 0, 1) := by decide +kernel
theorem dX3_bringBack_8 : decode cX3_bringBack 8 = .ok (.dup, 1) := by decide +kernel
theorem dX3_bringBack_9 : decode cX3_bringBack 9 = .ok (.getfield 18, 3) := by decide +kernel
theorem dX3_bringBack_12 : decode cX3_bringBack 12 = .ok (.iconst 1, 1) := by decide +kernel
theorem dX3_bringBack_13 : decode cX3_bringBack 13 = .ok (.isub, 1) := by decide +kernel
theorem dX3_bringBack_14 : decode cX3_bringBack 14 = .ok (.putfield 18, 3) := by decide +kernel
theorem dX3_bringBack_17 : decode cX3_bringBack 17 = .ok (.aload_n 1, 1) := by decide +kernel
theorem dX3_bringBack_18 : decode cX3_bringBack 18 = .ok (.aload_n 0, 1) := by decide +kernel
theorem dX3_bringBack_19 : decode cX3_bringBack 19 = .ok (.getfield 11, 3) := by decide +kernel
theorem dX3_bringBack_22 : decode cX3_bringBack 22 = .ok (.aload_n 0, 1) := by decide +kernel
theorem dX3_bringBack_23 : decode cX3_bringBack 23 = .ok (.getfield 22, 3) := by decide +kernel
theorem dX3_bringBack_26 : decode cX3_bringBack 26 = .ok (.aload_n 0, 1) := by decide +kernel
theorem dX3_bringBack_27 : decode cX3_bringBack 27 = .ok (.getfield 18, 3) := by decide +kernel
theorem dX3_bringBack_30 : decode cX3_bringBack 30 = .ok (.iadd, 1) := by decide +kernel
theorem dX3_bringBack_31 : decode cX3_bringBack 31 = .ok (.iconst 5, 1) := by decide +kernel
theorem dX3_bringBack_32 : decode cX3_bringBack 32 = .ok (.irem, 1) := by decide +kernel
theorem dX3_bringBack_33 : decode cX3_bringBack 33 = .ok (.aaload, 1) := by decide +kernel
theorem dX3_bringBack_34 : decode cX3_bringBack 34 = .ok (.invokevirtual 25, 3) := by decide +kernel
theorem dX3_bringBack_37 : decode cX3_bringBack 37 = .ok (.return_, 1) := by decide +kernel
theorem dX4_length_0 : decode cX4_length 0 = .ok (.iload_n 0, 1) := by decide +kernel
theorem dX4_length_1 : decode cX4_length 1 = .ok (.bipush 15, 2) := by decide +kernel
theorem dX4_length_3 : decode cX4_length 3 = .ok (.iand, 1) := by decide +kernel
theorem dX4_length_4 : decode cX4_length 4 = .ok (.ireturn, 1) := by decide +kernel
theorem dX4_threadAt_0 : decode cX4_threadAt 0 = .ok (.iload_n 0, 1) := by decide +kernel
theorem dX4_threadAt_1 : decode cX4_threadAt 1 = .ok (.iconst 4, 1) := by decide +kernel
theorem dX4_threadAt_2 : decode cX4_threadAt 2 = .ok (.iconst 2, 1) := by decide +kernel
theorem dX4_threadAt_3 : decode cX4_threadAt 3 = .ok (.bipush 11, 2) := by decide +kernel
theorem dX4_threadAt_5 : decode cX4_threadAt 5 = .ok (.iload_n 1, 1) := by decide +kernel
theorem dX4_threadAt_6 : decode cX4_threadAt 6 = .ok (.isub, 1) := by decide +kernel
theorem dX4_threadAt_7 : decode cX4_threadAt 7 = .ok (.imul, 1) := by decide +kernel
theorem dX4_threadAt_8 : decode cX4_threadAt 8 = .ok (.iadd, 1) := by decide +kernel
theorem dX4_threadAt_9 : decode cX4_threadAt 9 = .ok (.iushr, 1) := by decide +kernel
theorem dX4_threadAt_10 : decode cX4_threadAt 10 = .ok (.iconst 3, 1) := by decide +kernel
theorem dX4_threadAt_11 : decode cX4_threadAt 11 = .ok (.iand, 1) := by decide +kernel
theorem dX4_threadAt_12 : decode cX4_threadAt 12 = .ok (.ireturn, 1) := by decide +kernel
set_option maxRecDepth 20000 in
theorem ggX4_withThreadAt_X4_length : GoodIn wsX4_withThreadAt wsX4_length := goodIn_r _ [4] (by decide +kernel) (by decide +kernel)
set_option maxRecDepth 20000 in
theorem gX4_withThreadAt_X4_length : GoodIn wsX4_withThreadAt (va_wsS RX4 9 yX4_length wsX4_length) := goodIn_app (goodIn_of _ (by decide +kernel)) ggX4_withThreadAt_X4_length
theorem dX4_withThreadAt_0 : decode cX4_withThreadAt 0 = .ok (.iload_n 0, 1) := by decide +kernel
theorem dX4_withThreadAt_1 : decode cX4_withThreadAt 1 = .ok (.invokestatic 9, 3) := by decide +kernel
theorem dX4_withThreadAt_4 : decode cX4_withThreadAt 4 = .ok (.bipush 12, 2) := by decide +kernel
theorem dX4_withThreadAt_6 : decode cX4_withThreadAt 6 = .ok (.if_icmp .ge 15, 3) := by decide +kernel
theorem dX4_withThreadAt_9 : decode cX4_withThreadAt 9 = .ok (.iload_n 1, 1) := by decide +kernel
theorem dX4_withThreadAt_10 : decode cX4_withThreadAt 10 = .ok (.ifCond .lt 11, 3) := by decide +kernel
theorem dX4_withThreadAt_13 : decode cX4_withThreadAt 13 = .ok (.iload_n 1, 1) := by decide +kernel
theorem dX4_withThreadAt_14 : decode cX4_withThreadAt 14 = .ok (.iload_n 0, 1) := by decide +kernel
theorem dX4_withThreadAt_15 : decode cX4_withThreadAt 15 = .ok (.invokestatic 9, 3) := by decide +kernel
theorem dX4_withThreadAt_18 : decode cX4_withThreadAt 18 = .ok (.if_icmp .le 5, 3) := by decide +kernel
theorem dX4_withThreadAt_21 : decode cX4_withThreadAt 21 = .ok (.iload_n 0, 1) := by decide +kernel
theorem dX4_withThreadAt_22 : decode cX4_withThreadAt 22 = .ok (.ireturn, 1) := by decide +kernel
theorem dX4_withThreadAt_23 : decode cX4_withThreadAt 23 = .ok (.iconst 2, 1) := by decide +kernel
theorem dX4_withThreadAt_24 : decode cX4_withThreadAt 24 = .ok (.bipush 12, 2) := by decide +kernel
theorem dX4_withThreadAt_26 : decode cX4_withThreadAt 26 = .ok (.iload_n 1, 1) := by decide +kernel
theorem dX4_withThreadAt_27 : decode cX4_withThreadAt 27 = .ok (.isub, 1) := by decide +kernel
theorem dX4_withThreadAt_28 : decode cX4_withThreadAt 28 = .ok (.imul, 1) := by decide +kernel
theorem dX4_withThreadAt_29 : decode cX4_withThreadAt 29 = .ok (.istore_n 3, 1) := by decide +kernel
theorem dX4_withThreadAt_30 : decode cX4_withThreadAt 30 = .ok (.iload_n 0, 1) := by decide +kernel
theorem dX4_withThreadAt_31 : decode cX4_withThreadAt 31 = .ok (.iconst 4, 1) := by decide +kernel
theorem dX4_withThreadAt_32 : decode cX4_withThreadAt 32 = .ok (.iushr, 1) := by decide +kernel
theorem dX4_withThreadAt_33 : decode cX4_withThreadAt 33 = .ok (.istore 4, 2) := by decide +kernel
theorem dX4_withThreadAt_35 : decode cX4_withThreadAt 35 = .ok (.iload 4, 2) := by decide +kernel
theorem dX4_withThreadAt_37 : decode cX4_withThreadAt 37 = .ok (.iload_n 3, 1) := by decide +kernel
theorem dX4_withThreadAt_38 : decode cX4_withThreadAt 38 = .ok (.iushr, 1) := by decide +kernel
theorem dX4_withThreadAt_39 : decode cX4_withThreadAt 39 = .ok (.iload_n 3, 1) := by decide +kernel
theorem dX4_withThreadAt_40 : decode cX4_withThreadAt 40 = .ok (.ishl, 1) := by decide +kernel
theorem dX4_withThreadAt_41 : decode cX4_withThreadAt 41 = .ok (.istore 5, 2) := by decide +kernel
theorem dX4_withThreadAt_43 : decode cX4_withThreadAt 43 = .ok (.iload 4, 2) := by decide +kernel
theorem dX4_withThreadAt_45 : decode cX4_withThreadAt 45 = .ok (.iconst 1, 1) := by decide +kernel
theorem dX4_withThreadAt_46 : decode cX4_withThreadAt 46 = .ok (.iload_n 3, 1) := by decide +kernel
theorem dX4_withThreadAt_47 : decode cX4_withThreadAt 47 = .ok (.ishl, 1) := by decide +kernel
theorem dX4_withThreadAt_48 : decode cX4_withThreadAt 48 = .ok (.iconst 1, 1) := by decide +kernel
theorem dX4_withThreadAt_49 : decode cX4_withThreadAt 49 = .ok (.isub, 1) := by decide +kernel
theorem dX4_withThreadAt_50 : decode cX4_withThreadAt 50 = .ok (.iand, 1) := by decide +kernel
theorem dX4_withThreadAt_51 : decode cX4_withThreadAt 51 = .ok (.istore 6, 2) := by decide +kernel
theorem dX4_withThreadAt_53 : decode cX4_withThreadAt 53 = .ok (.iload 5, 2) := by decide +kernel
theorem dX4_withThreadAt_55 : decode cX4_withThreadAt 55 = .ok (.iload_n 2, 1) := by decide +kernel
theorem dX4_withThreadAt_56 : decode cX4_withThreadAt 56 = .ok (.iload_n 3, 1) := by decide +kernel
theorem dX4_withThreadAt_57 : decode cX4_withThreadAt 57 = .ok (.iconst 2, 1) := by decide +kernel
theorem dX4_withThreadAt_58 : decode cX4_withThreadAt 58 = .ok (.isub, 1) := by decide +kernel
theorem dX4_withThreadAt_59 : decode cX4_withThreadAt 59 = .ok (.ishl, 1) := by decide +kernel
theorem dX4_withThreadAt_60 : decode cX4_withThreadAt 60 = .ok (.ior, 1) := by decide +kernel
theorem dX4_withThreadAt_61 : decode cX4_withThreadAt 61 = .ok (.iload 6, 2) := by decide +kernel
theorem dX4_withThreadAt_63 : decode cX4_withThreadAt 63 = .ok (.iconst 2, 1) := by decide +kernel
theorem dX4_withThreadAt_64 : decode cX4_withThreadAt 64 = .ok (.iushr, 1) := by decide +kernel
theorem dX4_withThreadAt_65 : decode cX4_withThreadAt 65 = .ok (.ior, 1) := by decide +kernel
theorem dX4_withThreadAt_66 : decode cX4_withThreadAt 66 = .ok (.istore 7, 2) := by decide +kernel
theorem dX4_withThreadAt_68 : decode cX4_withThreadAt 68 = .ok (.iload 7, 2) := by decide +kernel
theorem dX4_withThreadAt_70 : decode cX4_withThreadAt 70 = .ok (.iconst 4, 1) := by decide +kernel
theorem dX4_withThreadAt_71 : decode cX4_withThreadAt 71 = .ok (.ishl, 1) := by decide +kernel
theorem dX4_withThreadAt_72 : decode cX4_withThreadAt 72 = .ok (.iload_n 0, 1) := by decide +kernel
theorem dX4_withThreadAt_73 : decode cX4_withThreadAt 73 = .ok (.invokestatic 9, 3) := by decide +kernel
theorem dX4_withThreadAt_76 : decode cX4_withThreadAt 76 = .ok (.iconst 1, 1) := by decide +kernel
theorem dX4_withThreadAt_77 : decode cX4_withThreadAt 77 = .ok (.iadd, 1) := by decide +kernel
theorem dX4_withThreadAt_78 : decode cX4_withThreadAt 78 = .ok (.ior, 1) := by decide +kernel
theorem dX4_withThreadAt_79 : decode cX4_withThreadAt 79 = .ok (.ireturn, 1) := by decide +kernel
theorem dX5_init_0 : decode cX5_init 0 = .ok (.aload_n 0, 1) := by decide +kernel
theorem dX5_init_1 : decode cX5_init 1 = .ok (.invokespecial 3, 3) := by decide +kernel
theorem dX5_init_4 : decode cX5_init 4 = .ok (.aload_n 0, 1) := by decide +kernel
theorem dX5_init_5 : decode cX5_init 5 = .ok (.bipush 12, 2) := by decide +kernel
theorem dX5_init_7 : decode cX5_init 7 = .ok (.newarray .int, 2) := by decide +kernel
theorem dX5_init_9 : decode cX5_init 9 = .ok (.putfield 9, 3) := by decide +kernel
theorem dX5_init_12 : decode cX5_init 12 = .ok (.aload_n 0, 1) := by decide +kernel
theorem dX5_init_13 : decode cX5_init 13 = .ok (.iconst 3, 1) := by decide +kernel
theorem dX5_init_14 : decode cX5_init 14 = .ok (.newarray .int, 2) := by decide +kernel
theorem dX5_init_16 : decode cX5_init 16 = .ok (.putfield 15, 3) := by decide +kernel
theorem dX5_init_19 : decode cX5_init 19 = .ok (.return_, 1) := by decide +kernel
theorem dX5_takeFrom_0 : decode cX5_takeFrom 0 = .ok (.aload_n 1, 1) := by decide +kernel
theorem dX5_takeFrom_1 : decode cX5_takeFrom 1 = .ok (.getfield 9, 3) := by decide +kernel
theorem dX5_takeFrom_4 : decode cX5_takeFrom 4 = .ok (.iconst 0, 1) := by decide +kernel
theorem dX5_takeFrom_5 : decode cX5_takeFrom 5 = .ok (.aload_n 0, 1) := by decide +kernel
theorem dX5_takeFrom_6 : decode cX5_takeFrom 6 = .ok (.getfield 9, 3) := by decide +kernel
theorem dX5_takeFrom_9 : decode cX5_takeFrom 9 = .ok (.iconst 0, 1) := by decide +kernel
theorem dX5_takeFrom_10 : decode cX5_takeFrom 10 = .ok (.bipush 12, 2) := by decide +kernel
theorem dX5_takeFrom_12 : decode cX5_takeFrom 12 = .ok (.invokestatic 18, 3) := by decide +kernel
theorem dX5_takeFrom_15 : decode cX5_takeFrom 15 = .ok (.aload_n 1, 1) := by decide +kernel
theorem dX5_takeFrom_16 : decode cX5_takeFrom 16 = .ok (.getfield 15, 3) := by decide +kernel
theorem dX5_takeFrom_19 : decode cX5_takeFrom 19 = .ok (.iconst 0, 1) := by decide +kernel
theorem dX5_takeFrom_20 : decode cX5_takeFrom 20 = .ok (.aload_n 0, 1) := by decide +kernel
theorem dX5_takeFrom_21 : decode cX5_takeFrom 21 = .ok (.getfield 15, 3) := by decide +kernel
theorem dX5_takeFrom_24 : decode cX5_takeFrom 24 = .ok (.iconst 0, 1) := by decide +kernel
theorem dX5_takeFrom_25 : decode cX5_takeFrom 25 = .ok (.iconst 3, 1) := by decide +kernel
theorem dX5_takeFrom_26 : decode cX5_takeFrom 26 = .ok (.invokestatic 18, 3) := by decide +kernel
theorem dX5_takeFrom_29 : decode cX5_takeFrom 29 = .ok (.aload_n 0, 1) := by decide +kernel
theorem dX5_takeFrom_30 : decode cX5_takeFrom 30 = .ok (.aload_n 1, 1) := by decide +kernel
theorem dX5_takeFrom_31 : decode cX5_takeFrom 31 = .ok (.getfield 24, 3) := by decide +kernel
theorem dX5_takeFrom_34 : decode cX5_takeFrom 34 = .ok (.putfield 24, 3) := by decide +kernel
theorem dX5_takeFrom_37 : decode cX5_takeFrom 37 = .ok (.aload_n 0, 1) := by decide +kernel
theorem dX5_takeFrom_38 : decode cX5_takeFrom 38 = .ok (.aload_n 1, 1) := by decide +kernel
theorem dX5_takeFrom_39 : decode cX5_takeFrom 39 = .ok (.getfield 28, 3) := by decide +kernel
theorem dX5_takeFrom_42 : decode cX5_takeFrom 42 = .ok (.putfield 28, 3) := by decide +kernel
theorem dX5_takeFrom_45 : decode cX5_takeFrom 45 = .ok (.aload_n 0, 1) := by decide +kernel
theorem dX5_takeFrom_46 : decode cX5_takeFrom 46 = .ok (.aload_n 1, 1) := by decide +kernel
theorem dX5_takeFrom_47 : decode cX5_takeFrom 47 = .ok (.getfield 31, 3) := by decide +kernel
theorem dX5_takeFrom_50 : decode cX5_takeFrom 50 = .ok (.putfield 31, 3) := by decide +kernel
theorem dX5_takeFrom_53 : decode cX5_takeFrom 53 = .ok (.return_, 1) := by decide +kernel
set_option maxRecDepth 20000 in
theorem ggX5_hasSameThreads_X5_stepAt : GoodIn wsX5_hasSameThreads wsX5_stepAt := goodIn_r _ [7, 2, 8, 9, 10, 11, 12, 13] (by decide +kernel) (by decide +kernel)
set_option maxRecDepth 20000 in
theorem gX5_hasSameThreads_X5_stepAt : GoodIn wsX5_hasSameThreads (wsV RX5 35 RX5 yX5_stepAt wsX5_stepAt) := goodIn_app (goodIn_of _ (by decide +kernel)) ggX5_hasSameThreads_X5_stepAt
theorem dX5_hasSameThreads_0 : decode cX5_hasSameThreads 0 = .ok (.aload_n 0, 1) := by decide +kernel
theorem dX5_hasSameThreads_1 : decode cX5_hasSameThreads 1 = .ok (.getfield 24, 3) := by decide +kernel
theorem dX5_hasSameThreads_4 : decode cX5_hasSameThreads 4 = .ok (.aload_n 1, 1) := by decide +kernel
theorem dX5_hasSameThreads_5 : decode cX5_hasSameThreads 5 = .ok (.getfield 24, 3) := by decide +kernel
theorem dX5_hasSameThreads_8 : decode cX5_hasSameThreads 8 = .ok (.lcmp, 1) := by decide +kernel
theorem dX5_hasSameThreads_9 : decode cX5_hasSameThreads 9 = .ok (.ifCond .eq 5, 3) := by decide +kernel
theorem dX5_hasSameThreads_12 : decode cX5_hasSameThreads 12 = .ok (.iconst 0, 1) := by decide +kernel
theorem dX5_hasSameThreads_13 : decode cX5_hasSameThreads 13 = .ok (.ireturn, 1) := by decide +kernel
theorem dX5_hasSameThreads_14 : decode cX5_hasSameThreads 14 = .ok (.iconst 0, 1) := by decide +kernel
theorem dX5_hasSameThreads_15 : decode cX5_hasSameThreads 15 = .ok (.istore_n 2, 1) := by decide +kernel
theorem dX5_hasSameThreads_16 : decode cX5_hasSameThreads 16 = .ok (.iload_n 2, 1) := by decide +kernel
theorem dX5_hasSameThreads_17 : decode cX5_hasSameThreads 17 = .ok (.iconst 3, 1) := by decide +kernel
theorem dX5_hasSameThreads_18 : decode cX5_hasSameThreads 18 = .ok (.if_icmp .ge 61, 3) := by decide +kernel
theorem dX5_hasSameThreads_21 : decode cX5_hasSameThreads 21 = .ok (.aload_n 0, 1) := by decide +kernel
theorem dX5_hasSameThreads_22 : decode cX5_hasSameThreads 22 = .ok (.getfield 15, 3) := by decide +kernel
theorem dX5_hasSameThreads_25 : decode cX5_hasSameThreads 25 = .ok (.iload_n 2, 1) := by decide +kernel
theorem dX5_hasSameThreads_26 : decode cX5_hasSameThreads 26 = .ok (.iaload, 1) := by decide +kernel
theorem dX5_hasSameThreads_27 : decode cX5_hasSameThreads 27 = .ok (.aload_n 1, 1) := by decide +kernel
theorem dX5_hasSameThreads_28 : decode cX5_hasSameThreads 28 = .ok (.getfield 15, 3) := by decide +kernel
theorem dX5_hasSameThreads_31 : decode cX5_hasSameThreads 31 = .ok (.iload_n 2, 1) := by decide +kernel
theorem dX5_hasSameThreads_32 : decode cX5_hasSameThreads 32 = .ok (.iaload, 1) := by decide +kernel
theorem dX5_hasSameThreads_33 : decode cX5_hasSameThreads 33 = .ok (.if_icmp .eq 5, 3) := by decide +kernel
theorem dX5_hasSameThreads_36 : decode cX5_hasSameThreads 36 = .ok (.iconst 0, 1) := by decide +kernel
theorem dX5_hasSameThreads_37 : decode cX5_hasSameThreads 37 = .ok (.ireturn, 1) := by decide +kernel
theorem dX5_hasSameThreads_38 : decode cX5_hasSameThreads 38 = .ok (.iconst 0, 1) := by decide +kernel
theorem dX5_hasSameThreads_39 : decode cX5_hasSameThreads 39 = .ok (.istore_n 3, 1) := by decide +kernel
theorem dX5_hasSameThreads_40 : decode cX5_hasSameThreads 40 = .ok (.iload_n 3, 1) := by decide +kernel
theorem dX5_hasSameThreads_41 : decode cX5_hasSameThreads 41 = .ok (.aload_n 0, 1) := by decide +kernel
theorem dX5_hasSameThreads_42 : decode cX5_hasSameThreads 42 = .ok (.getfield 15, 3) := by decide +kernel
