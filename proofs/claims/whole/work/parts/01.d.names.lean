theorem dX8_drops_33 : decode cX8_drops 33 = .ok (.aload_n 0, 1) := by decide +kernel
theorem dX8_drops_34 : decode cX8_drops 34 = .ok (.getfield 22, 3) := by decide +kernel
theorem dX8_drops_37 : decode cX8_drops 37 = .ok (.aload_n 0, 1) := by decide +kernel
theorem dX8_drops_38 : decode cX8_drops 38 = .ok (.getfield 12, 3) := by decide +kernel
theorem dX8_drops_41 : decode cX8_drops 41 = .ok (.invokevirtual 64, 3) := by decide +kernel
theorem dX8_drops_44 : decode cX8_drops 44 = .ok (.aload_n 0, 1) := by decide +kernel
theorem dX8_drops_45 : decode cX8_drops 45 = .ok (.getfield 12, 3) := by decide +kernel
theorem dX8_drops_48 : decode cX8_drops 48 = .ok (.iload_n 1, 1) := by decide +kernel
theorem dX8_drops_49 : decode cX8_drops 49 = .ok (.invokevirtual 76, 3) := by decide +kernel
theorem dX8_drops_52 : decode cX8_drops 52 = .ok (.aload_n 0, 1) := by decide +kernel
theorem dX8_drops_53 : decode cX8_drops 53 = .ok (.getfield 12, 3) := by decide +kernel
theorem dX8_drops_56 : decode cX8_drops 56 = .ok (.iload_n 1, 1) := by decide +kernel
theorem dX8_drops_57 : decode cX8_drops 57 = .ok (.invokevirtual 61, 3) := by decide +kernel
theorem dX8_drops_60 : decode cX8_drops 60 = .ok (.ireturn, 1) := by decide +kernel
set_option maxRecDepth 20000 in
theorem ggX8_number_X8_below : GoodIn wsX8_number wsX8_below := goodIn_r _ [6] (by decide +kernel) (by decide +kernel)
set_option maxRecDepth 20000 in
theorem gX8_number_X8_below : GoodIn wsX8_number (va_wsS RX8 47 yX8_below wsX8_below) := goodIn_app (goodIn_of _ (by decide +kernel)) ggX8_number_X8_below
set_option maxRecDepth 20000 in
theorem ggX8_number_X8_refused : GoodIn wsX8_number wsX8_refused := goodIn_r _ [10, 11, 12, 13, 63, 64, 65, 66, 67, 68, 69, 70, 71] (by decide +kernel) (by decide +kernel)
set_option maxRecDepth 20000 in
theorem gX8_number_X8_refused : GoodIn wsX8_number (wsV RX8 57 RX8 yX8_refused wsX8_refused) := goodIn_app (goodIn_of _ (by decide +kernel)) ggX8_number_X8_refused
set_option maxRecDepth 20000 in
theorem ggX8_number_X3_keep : GoodIn wsX8_number wsX3_keep := goodIn_r _ [18, 19, 20, 21, 22, 23, 24, 25, 26, 27, 28, 29, 30, 31, 32, 33, 34, 35, 72, 73, 74, 75, 76, 77, 78, 79] (by decide +kernel) (by decide +kernel)
set_option maxRecDepth 20000 in
theorem gX8_number_X3_keep : GoodIn wsX8_number (wsV RX8 64 RX3 yX3_keep wsX3_keep) := goodIn_app (goodIn_of _ (by decide +kernel)) ggX8_number_X3_keep
set_option maxRecDepth 20000 in
theorem ggX8_number_X5_beginning : GoodIn wsX8_number wsX5_beginning := goodIn_r _ [39, 33, 75, 76, 77, 78, 79] (by decide +kernel) (by decide +kernel)
set_option maxRecDepth 20000 in
theorem gX8_number_X5_beginning : GoodIn wsX8_number (wsV RX8 80 RX5 yX5_beginning wsX5_beginning) := goodIn_app (goodIn_of _ (by decide +kernel)) ggX8_number_X5_beginning
set_option maxRecDepth 20000 in
theorem ggX8_number_X2_valueOf : GoodIn wsX8_number wsX2_valueOf := goodIn_r _ [43, 44, 45, 42, 46] (by decide +kernel) (by decide +kernel)
set_option maxRecDepth 20000 in
theorem gX8_number_X2_valueOf : GoodIn wsX8_number (va_wsS RX8 84 yX2_valueOf wsX2_valueOf) := goodIn_app (goodIn_of _ (by decide +kernel)) ggX8_number_X2_valueOf
set_option maxRecDepth 20000 in
theorem ggX8_number_X5_setBeginning : GoodIn wsX8_number wsX5_setBeginning := goodIn_r _ [50, 33, 51, 52, 42, 53, 54, 55, 56, 57, 58, 59, 60, 61, 25, 62, 34, 35, 75, 76, 77, 78, 79] (by decide +kernel) (by decide +kernel)
set_option maxRecDepth 20000 in
theorem gX8_number_X5_setBeginning : GoodIn wsX8_number (wsV RX8 90 RX5 yX5_setBeginning wsX5_setBeginning) := goodIn_app (goodIn_of _ (by decide +kernel)) ggX8_number_X5_setBeginning
theorem dX8_number_0 : decode cX8_number 0 = .ok (.iload_n 1, 1) := by decide +kernel
theorem dX8_number_1 : decode cX8_number 1 = .ok (.iconst 4, 1) := by decide +kernel
theorem dX8_number_2 : decode cX8_number 2 = .ok (.invokestatic 47, 3) := by decide +kernel
theorem dX8_number_5 : decode cX8_number 5 = .ok (.ifCond .eq 12, 3) := by decide +kernel
theorem dX8_number_8 : decode cX8_number 8 = .ok (.iload_n 2, 1) := by decide +kernel
theorem dX8_number_9 : decode cX8_number 9 = .ok (.bipush 10, 2) := by decide +kernel
theorem dX8_number_11 : decode cX8_number 11 = .ok (.invokestatic 47, 3) := by decide +kernel
theorem dX8_number_14 : decode cX8_number 14 = .ok (.ifCond .ne 10, 3) := by decide +kernel
theorem dX8_number_17 : decode cX8_number 17 = .ok (.aload_n 0, 1) := by decide +kernel
theorem dX8_number_18 : decode cX8_number 18 = .ok (.bipush (-2), 2) := by decide +kernel
theorem dX8_number_20 : decode cX8_number 20 = .ok (.invokevirtual 57, 3) := by decide +kernel
theorem dX8_number_23 : decode cX8_number 23 = .ok (.ireturn, 1) := by decide +kernel
theorem dX8_number_24 : decode cX8_number 24 = .ok (.aload_n 0, 1) := by decide +kernel
theorem dX8_number_25 : decode cX8_number 25 = .ok (.getfield 22, 3) := by decide +kernel
theorem dX8_number_28 : decode cX8_number 28 = .ok (.aload_n 0, 1) := by decide +kernel
theorem dX8_number_29 : decode cX8_number 29 = .ok (.getfield 12, 3) := by decide +kernel
theorem dX8_number_32 : decode cX8_number 32 = .ok (.invokevirtual 64, 3) := by decide +kernel
theorem dX8_number_35 : decode cX8_number 35 = .ok (.aload_n 0, 1) := by decide +kernel
theorem dX8_number_36 : decode cX8_number 36 = .ok (.getfield 12, 3) := by decide +kernel
theorem dX8_number_39 : decode cX8_number 39 = .ok (.invokevirtual 80, 3) := by decide +kernel
theorem dX8_number_42 : decode cX8_number 42 = .ok (.iload_n 1, 1) := by decide +kernel
theorem dX8_number_43 : decode cX8_number 43 = .ok (.invokestatic 84, 3) := by decide +kernel
theorem dX8_number_46 : decode cX8_number 46 = .ok (.istore_n 3, 1) := by decide +kernel
theorem dX8_number_47 : decode cX8_number 47 = .ok (.aload_n 0, 1) := by decide +kernel
theorem dX8_number_48 : decode cX8_number 48 = .ok (.getfield 12, 3) := by decide +kernel
theorem dX8_number_51 : decode cX8_number 51 = .ok (.iload_n 1, 1) := by decide +kernel
theorem dX8_number_52 : decode cX8_number 52 = .ok (.iload_n 2, 1) := by decide +kernel
theorem dX8_number_53 : decode cX8_number 53 = .ok (.invokevirtual 90, 3) := by decide +kernel
theorem dX8_number_56 : decode cX8_number 56 = .ok (.iload_n 3, 1) := by decide +kernel
theorem dX8_number_57 : decode cX8_number 57 = .ok (.ireturn, 1) := by decide +kernel
set_option maxRecDepth 20000 in
theorem ggX8_of_X5_hasStep : GoodIn wsX8_of wsX5_hasStep := goodIn_r _ [6, 7, 8, 9, 5, 10, 11, 12, 13, 14, 55, 56, 57, 58, 59] (by decide +kernel) (by decide +kernel)
set_option maxRecDepth 20000 in
theorem gX8_of_X5_hasStep : GoodIn wsX8_of (wsV RX8 93 RX5 yX5_hasStep wsX5_hasStep) := goodIn_app (goodIn_of _ (by decide +kernel)) ggX8_of_X5_hasStep
set_option maxRecDepth 20000 in
theorem ggX8_of_X8_refused : GoodIn wsX8_of wsX8_refused := goodIn_r _ [18, 19, 20, 21, 46, 47, 48, 49, 50, 51, 52, 53, 54] (by decide +kernel) (by decide +kernel)
set_option maxRecDepth 20000 in
theorem gX8_of_X8_refused : GoodIn wsX8_of (wsV RX8 57 RX8 yX8_refused wsX8_refused) := goodIn_app (goodIn_of _ (by decide +kernel)) ggX8_of_X8_refused
set_option maxRecDepth 20000 in
theorem ggX8_of_X5_stepAt : GoodIn wsX8_of wsX5_stepAt := goodIn_r _ [25, 11, 26, 55, 56, 57, 58, 59] (by decide +kernel) (by decide +kernel)
set_option maxRecDepth 20000 in
theorem gX8_of_X5_stepAt : GoodIn wsX8_of (wsV RX8 96 RX5 yX5_stepAt wsX5_stepAt) := goodIn_app (goodIn_of _ (by decide +kernel)) ggX8_of_X5_stepAt
set_option maxRecDepth 20000 in
theorem ggX8_of_X6_kind : GoodIn wsX8_of wsX6_kind := goodIn_r _ [30] (by decide +kernel) (by decide +kernel)
set_option maxRecDepth 20000 in
theorem gX8_of_X6_kind : GoodIn wsX8_of (va_wsS RX8 100 yX6_kind wsX6_kind) := goodIn_app (goodIn_of _ (by decide +kernel)) ggX8_of_X6_kind
set_option maxRecDepth 20000 in
theorem ggX8_of_X6_target : GoodIn wsX8_of wsX6_target := goodIn_r _ [33] (by decide +kernel) (by decide +kernel)
set_option maxRecDepth 20000 in
theorem gX8_of_X6_target : GoodIn wsX8_of (va_wsS RX8 103 yX6_target wsX6_target) := goodIn_app (goodIn_of _ (by decide +kernel)) ggX8_of_X6_target
set_option maxRecDepth 20000 in
theorem ggX8_of_X6_value : GoodIn wsX8_of wsX6_value := goodIn_r _ [36] (by decide +kernel) (by decide +kernel)
set_option maxRecDepth 20000 in
theorem gX8_of_X6_value : GoodIn wsX8_of (va_wsS RX8 106 yX6_value wsX6_value) := goodIn_app (goodIn_of _ (by decide +kernel)) ggX8_of_X6_value
set_option maxRecDepth 20000 in
theorem ggX8_of_X6_readBits : GoodIn wsX8_of wsX6_readBits := goodIn_r _ [39, 40, 28, 29, 30, 41, 32, 33, 42, 35, 36] (by decide +kernel) (by decide +kernel)
set_option maxRecDepth 20000 in
theorem gX8_of_X6_readBits : GoodIn wsX8_of (va_wsS RX8 109 yX6_readBits wsX6_readBits) := goodIn_app (goodIn_of _ (by decide +kernel)) ggX8_of_X6_readBits
set_option maxRecDepth 20000 in
theorem ggX8_of_X6_writeBits : GoodIn wsX8_of wsX6_writeBits := goodIn_r _ [45, 40, 28, 29, 30, 41, 32, 33] (by decide +kernel) (by decide +kernel)
set_option maxRecDepth 20000 in
theorem gX8_of_X6_writeBits : GoodIn wsX8_of (va_wsS RX8 112 yX6_writeBits wsX6_writeBits) := goodIn_app (goodIn_of _ (by decide +kernel)) ggX8_of_X6_writeBits
theorem dX8_of_0 : decode cX8_of 0 = .ok (.aload_n 0, 1) := by decide +kernel
theorem dX8_of_1 : decode cX8_of 1 = .ok (.getfield 12, 3) := by decide +kernel
theorem dX8_of_4 : decode cX8_of 4 = .ok (.iload_n 1, 1) := by decide +kernel
theorem dX8_of_5 : decode cX8_of 5 = .ok (.iload_n 2, 1) := by decide +kernel
theorem dX8_of_6 : decode cX8_of 6 = .ok (.invokevirtual 93, 3) := by decide +kernel
theorem dX8_of_9 : decode cX8_of 9 = .ok (.ifCond .ne 10, 3) := by decide +kernel
theorem dX8_of_12 : decode cX8_of 12 = .ok (.aload_n 0, 1) := by decide +kernel
theorem dX8_of_13 : decode cX8_of 13 = .ok (.bipush (-2), 2) := by decide +kernel
theorem dX8_of_15 : decode cX8_of 15 = .ok (.invokevirtual 57, 3) := by decide +kernel
theorem dX8_of_18 : decode cX8_of 18 = .ok (.ireturn, 1) := by decide +kernel
theorem dX8_of_19 : decode cX8_of 19 = .ok (.aload_n 0, 1) := by decide +kernel
theorem dX8_of_20 : decode cX8_of 20 = .ok (.getfield 12, 3) := by decide +kernel
theorem dX8_of_23 : decode cX8_of 23 = .ok (.iload_n 1, 1) := by decide +kernel
theorem dX8_of_24 : decode cX8_of 24 = .ok (.iload_n 2, 1) := by decide +kernel
theorem dX8_of_25 : decode cX8_of 25 = .ok (.invokevirtual 96, 3) := by decide +kernel
theorem dX8_of_28 : decode cX8_of 28 = .ok (.istore 4, 2) := by decide +kernel
theorem dX8_of_30 : decode cX8_of 30 = .ok (.iload_n 3, 1) := by decide +kernel
theorem dX8_of_31 : decode cX8_of 31 = .ok (.tableswitch 63 0 4 #[33, 39, 45, 51, 57], 33) := by decide +kernel
theorem dX8_of_64 : decode cX8_of 64 = .ok (.iload 4, 2) := by decide +kernel
theorem dX8_of_66 : decode cX8_of 66 = .ok (.invokestatic 100, 3) := by decide +kernel
theorem dX8_of_69 : decode cX8_of 69 = .ok (.ireturn, 1) := by decide +kernel
theorem dX8_of_70 : decode cX8_of 70 = .ok (.iload 4, 2) := by decide +kernel
theorem dX8_of_72 : decode cX8_of 72 = .ok (.invokestatic 103, 3) := by decide +kernel
theorem dX8_of_75 : decode cX8_of 75 = .ok (.ireturn, 1) := by decide +kernel
theorem dX8_of_76 : decode cX8_of 76 = .ok (.iload 4, 2) := by decide +kernel
theorem dX8_of_78 : decode cX8_of 78 = .ok (.invokestatic 106, 3) := by decide +kernel
theorem dX8_of_81 : decode cX8_of 81 = .ok (.ireturn, 1) := by decide +kernel
theorem dX8_of_82 : decode cX8_of 82 = .ok (.iload 4, 2) := by decide +kernel
theorem dX8_of_84 : decode cX8_of 84 = .ok (.invokestatic 109, 3) := by decide +kernel
theorem dX8_of_87 : decode cX8_of 87 = .ok (.ireturn, 1) := by decide +kernel
theorem dX8_of_88 : decode cX8_of 88 = .ok (.iload 4, 2) := by decide +kernel
theorem dX8_of_90 : decode cX8_of 90 = .ok (.invokestatic 112, 3) := by decide +kernel
theorem dX8_of_93 : decode cX8_of 93 = .ok (.ireturn, 1) := by decide +kernel
theorem dX8_of_94 : decode cX8_of 94 = .ok (.aload_n 0, 1) := by decide +kernel
theorem dX8_of_95 : decode cX8_of 95 = .ok (.bipush (-2), 2) := by decide +kernel
theorem dX8_of_97 : decode cX8_of 97 = .ok (.invokevirtual 57, 3) := by decide +kernel
theorem dX8_of_100 : decode cX8_of 100 = .ok (.ireturn, 1) := by decide +kernel
set_option maxRecDepth 20000 in
theorem ggX8_depend_X5_hasStep : GoodIn wsX8_depend wsX5_hasStep := goodIn_r _ [6, 7, 8, 9, 5, 10, 11, 12, 13, 14, 64, 65, 66, 67, 68] (by decide +kernel) (by decide +kernel)
set_option maxRecDepth 20000 in
theorem gX8_depend_X5_hasStep : GoodIn wsX8_depend (wsV RX8 93 RX5 yX5_hasStep wsX5_hasStep) := goodIn_app (goodIn_of _ (by decide +kernel)) ggX8_depend_X5_hasStep
set_option maxRecDepth 20000 in
theorem ggX8_depend_X8_refused : GoodIn wsX8_depend wsX8_refused := goodIn_r _ [18, 19, 20, 21, 55, 56, 57, 58, 59, 60, 61, 62, 63] (by decide +kernel) (by decide +kernel)
set_option maxRecDepth 20000 in
theorem gX8_depend_X8_refused : GoodIn wsX8_depend (wsV RX8 57 RX8 yX8_refused wsX8_refused) := goodIn_app (goodIn_of _ (by decide +kernel)) ggX8_depend_X8_refused
set_option maxRecDepth 20000 in
theorem ggX8_depend_X5_stepAt : GoodIn wsX8_depend wsX5_stepAt := goodIn_r _ [25, 11, 26, 64, 65, 66, 67, 68] (by decide +kernel) (by decide +kernel)
set_option maxRecDepth 20000 in
theorem gX8_depend_X5_stepAt : GoodIn wsX8_depend (wsV RX8 96 RX5 yX5_stepAt wsX5_stepAt) := goodIn_app (goodIn_of _ (by decide +kernel)) ggX8_depend_X5_stepAt
set_option maxRecDepth 20000 in
theorem ggX8_depend_X6_tied : GoodIn wsX8_depend wsX6_tied := goodIn_r _ [30, 31, 32, 29, 33, 34, 35, 36, 37, 38, 39, 40, 41, 42, 43, 44, 45, 46, 47, 48, 49, 50, 51, 52, 53, 54] (by decide +kernel) (by decide +kernel)
set_option maxRecDepth 20000 in
theorem gX8_depend_X6_tied : GoodIn wsX8_depend (va_wsS RX8 115 yX6_tied wsX6_tied) := goodIn_app (goodIn_of _ (by decide +kernel)) ggX8_depend_X6_tied
theorem dX8_depend_0 : decode cX8_depend 0 = .ok (.aload_n 0, 1) := by decide +kernel
theorem dX8_depend_1 : decode cX8_depend 1 = .ok (.getfield 12, 3) := by decide +kernel
theorem dX8_depend_4 : decode cX8_depend 4 = .ok (.iload_n 1, 1) := by decide +kernel
theorem dX8_depend_5 : decode cX8_depend 5 = .ok (.iload_n 2, 1) := by decide +kernel
theorem dX8_depend_6 : decode cX8_depend 6 = .ok (.invokevirtual 93, 3) := by decide +kernel
theorem dX8_depend_9 : decode cX8_depend 9 = .ok (.ifCond .eq 27, 3) := by decide +kernel
theorem dX8_depend_12 : decode cX8_depend 12 = .ok (.aload_n 0, 1) := by decide +kernel
theorem dX8_depend_13 : decode cX8_depend 13 = .ok (.getfield 12, 3) := by decide +kernel
theorem dX8_depend_16 : decode cX8_depend 16 = .ok (.iload_n 3, 1) := by decide +kernel
theorem dX8_depend_17 : decode cX8_depend 17 = .ok (.iload 4, 2) := by decide +kernel
theorem dX8_depend_19 : decode cX8_depend 19 = .ok (.invokevirtual 93, 3) := by decide +kernel
theorem dX8_depend_22 : decode cX8_depend 22 = .ok (.ifCond .eq 14, 3) := by decide +kernel
theorem dX8_depend_25 : decode cX8_depend 25 = .ok (.iload_n 1, 1) := by decide +kernel
theorem dX8_depend_26 : decode cX8_depend 26 = .ok (.iload_n 3, 1) := by decide +kernel
theorem dX8_depend_27 : decode cX8_depend 27 = .ok (.if_icmp .ne 16, 3) := by decide +kernel
theorem dX8_depend_30 : decode cX8_depend 30 = .ok (.iload_n 2, 1) := by decide +kernel
theorem dX8_depend_31 : decode cX8_depend 31 = .ok (.iload 4, 2) := by decide +kernel
theorem dX8_depend_33 : decode cX8_depend 33 = .ok (.if_icmp .ne 10, 3) := by decide +kernel
theorem dX8_depend_36 : decode cX8_depend 36 = .ok (.aload_n 0, 1) := by decide +kernel
theorem dX8_depend_37 : decode cX8_depend 37 = .ok (.bipush (-2), 2) := by decide +kernel
theorem dX8_depend_39 : decode cX8_depend 39 = .ok (.invokevirtual 57, 3) := by decide +kernel
theorem dX8_depend_42 : decode cX8_depend 42 = .ok (.ireturn, 1) := by decide +kernel
theorem dX8_depend_43 : decode cX8_depend 43 = .ok (.iload_n 1, 1) := by decide +kernel
theorem dX8_depend_44 : decode cX8_depend 44 = .ok (.iload_n 3, 1) := by decide +kernel
theorem dX8_depend_45 : decode cX8_depend 45 = .ok (.if_icmp .eq 28, 3) := by decide +kernel
theorem dX8_depend_48 : decode cX8_depend 48 = .ok (.aload_n 0, 1) := by decide +kernel
theorem dX8_depend_49 : decode cX8_depend 49 = .ok (.getfield 12, 3) := by decide +kernel
theorem dX8_depend_52 : decode cX8_depend 52 = .ok (.iload_n 1, 1) := by decide +kernel
theorem dX8_depend_53 : decode cX8_depend 53 = .ok (.iload_n 2, 1) := by decide +kernel
theorem dX8_depend_54 : decode cX8_depend 54 = .ok (.invokevirtual 96, 3) := by decide +kernel
theorem dX8_depend_57 : decode cX8_depend 57 = .ok (.aload_n 0, 1) := by decide +kernel
theorem dX8_depend_58 : decode cX8_depend 58 = .ok (.getfield 12, 3) := by decide +kernel
theorem dX8_depend_61 : decode cX8_depend 61 = .ok (.iload_n 3, 1) := by decide +kernel
theorem dX8_depend_62 : decode cX8_depend 62 = .ok (.iload 4, 2) := by decide +kernel
theorem dX8_depend_64 : decode cX8_depend 64 = .ok (.invokevirtual 96, 3) := by decide +kernel
theorem dX8_depend_67 : decode cX8_depend 67 = .ok (.invokestatic 115, 3) := by decide +kernel
theorem dX8_depend_70 : decode cX8_depend 70 = .ok (.ifCond .eq 7, 3) := by decide +kernel
theorem dX8_depend_73 : decode cX8_depend 73 = .ok (.iconst 1, 1) := by decide +kernel
theorem dX8_depend_74 : decode cX8_depend 74 = .ok (.goto 4, 3) := by decide +kernel
theorem dX8_depend_77 : decode cX8_depend 77 = .ok (.iconst 0, 1) := by decide +kernel
theorem dX8_depend_78 : decode cX8_depend 78 = .ok (.ireturn, 1) := by decide +kernel
set_option maxRecDepth 20000 in
theorem ggX8_orders_X8_below : GoodIn wsX8_orders wsX8_below := goodIn_r _ [6] (by decide +kernel) (by decide +kernel)
set_option maxRecDepth 20000 in
theorem gX8_orders_X8_below : GoodIn wsX8_orders (va_wsS RX8 47 yX8_below wsX8_below) := goodIn_app (goodIn_of _ (by decide +kernel)) ggX8_orders_X8_below
set_option maxRecDepth 20000 in
theorem ggX8_orders_X8_refused : GoodIn wsX8_orders wsX8_refused := goodIn_r _ [10, 11, 12, 13, 168, 169, 170, 171, 172, 173, 174, 175, 176] (by decide +kernel) (by decide +kernel)
set_option maxRecDepth 20000 in
theorem gX8_orders_X8_refused : GoodIn wsX8_orders (wsV RX8 57 RX8 yX8_refused wsX8_refused) := goodIn_app (goodIn_of _ (by decide +kernel)) ggX8_orders_X8_refused
set_option maxRecDepth 20000 in
theorem ggX8_orders_X0_goThrough : GoodIn wsX8_orders wsX0_goThrough := goodIn_r _ [18, 19, 20, 21, 22, 23, 24, 25, 26, 27, 28, 29, 30, 31, 32, 33, 34, 35, 36, 37, 38, 39, 40, 41, 42, 43, 44, 45, 46, 47, 48, 49, 50, 51, 52, 53, 54, 55, 56, 57, 58, 17, 59, 60, 61, 62, 63, 64, 65, 66, 67, 68, 69, 70, 71, 72, 73, 74, 75, 76, 77, 78, 79, 80, 81, 82, 83, 84, 85, 86, 87, 88, 89, 90, 91, 92, 93, 94, 95, 96, 97, 98, 99, 100, 101, 102, 103, 104, 105, 106, 107, 4, 5, 6, 108, 109, 110, 111, 112, 113, 114, 115, 116, 117, 118, 119, 120, 121, 122, 123, 124, 125, 126, 127, 128, 129, 130, 131, 132, 133, 134, 135, 136, 137, 138, 139, 140, 141, 142, 143, 144, 145, 146, 147, 148, 149, 150, 151, 152, 153, 154, 155, 156, 157, 158, 159, 160, 161, 162, 163, 177, 178, 179, 180, 181, 182, 183, 184, 185, 186, 187, 188, 189, 190] (by decide +kernel) (by decide +kernel)
set_option maxRecDepth 20000 in
theorem gX8_orders_X0_goThrough : GoodIn wsX8_orders (wsV RX8 118 RX0 yX0_goThrough wsX0_goThrough) := goodIn_app (goodIn_of _ (by decide +kernel)) ggX8_orders_X0_goThrough
set_option maxRecDepth 20000 in
theorem ggX8_orders_X0_howMany : GoodIn wsX8_orders wsX0_howMany := goodIn_r _ [167, 22, 23, 24, 25, 177, 178, 179, 180, 181, 182, 183, 184, 185] (by decide +kernel) (by decide +kernel)
set_option maxRecDepth 20000 in
theorem gX8_orders_X0_howMany : GoodIn wsX8_orders (wsV RX8 121 RX0 yX0_howMany wsX0_howMany) := goodIn_app (goodIn_of _ (by decide +kernel)) ggX8_orders_X0_howMany
theorem dX8_orders_0 : decode cX8_orders 0 = .ok (.iload_n 1, 1) := by decide +kernel
theorem dX8_orders_1 : decode cX8_orders 1 = .ok (.iconst 4, 1) := by decide +kernel
theorem dX8_orders_2 : decode cX8_orders 2 = .ok (.invokestatic 47, 3) := by decide +kernel
theorem dX8_orders_5 : decode cX8_orders 5 = .ok (.ifCond .ne 10, 3) := by decide +kernel
theorem dX8_orders_8 : decode cX8_orders 8 = .ok (.aload_n 0, 1) := by decide +kernel
theorem dX8_orders_9 : decode cX8_orders 9 = .ok (.bipush (-2), 2) := by decide +kernel
theorem dX8_orders_11 : decode cX8_orders 11 = .ok (.invokevirtual 57, 3) := by decide +kernel
theorem dX8_orders_14 : decode cX8_orders 14 = .ok (.ireturn, 1) := by decide +kernel
theorem dX8_orders_15 : decode cX8_orders 15 = .ok (.aload_n 0, 1) := by decide +kernel
theorem dX8_orders_16 : decode cX8_orders 16 = .ok (.getfield 29, 3) := by decide +kernel
theorem dX8_orders_19 : decode cX8_orders 19 = .ok (.aload_n 0, 1) := by decide +kernel
theorem dX8_orders_20 : decode cX8_orders 20 = .ok (.getfield 12, 3) := by decide +kernel
theorem dX8_orders_23 : decode cX8_orders 23 = .ok (.invokevirtual 118, 3) := by decide +kernel
theorem dX8_orders_26 : decode cX8_orders 26 = .ok (.aload_n 0, 1) := by decide +kernel
theorem dX8_orders_27 : decode cX8_orders 27 = .ok (.getfield 29, 3) := by decide +kernel
theorem dX8_orders_30 : decode cX8_orders 30 = .ok (.iload_n 1, 1) := by decide +kernel
theorem dX8_orders_31 : decode cX8_orders 31 = .ok (.invokevirtual 121, 3) := by decide +kernel
theorem dX8_orders_34 : decode cX8_orders 34 = .ok (.ireturn, 1) := by decide +kernel
set_option maxRecDepth 20000 in
theorem ggX8_order_X8_refused : GoodIn wsX8_order wsX8_refused := goodIn_r _ [7, 8, 9, 10, 175, 176, 177, 178, 179, 180, 181, 182, 183] (by decide +kernel) (by decide +kernel)
set_option maxRecDepth 20000 in
theorem gX8_order_X8_refused : GoodIn wsX8_order (wsV RX8 57 RX8 yX8_refused wsX8_refused) := goodIn_app (goodIn_of _ (by decide +kernel)) ggX8_order_X8_refused
set_option maxRecDepth 20000 in
theorem ggX8_order_X0_goThrough : GoodIn wsX8_order wsX0_goThrough := goodIn_r _ [15, 16, 17, 18, 19, 20, 21, 22, 23, 24, 25, 26, 27, 28, 29, 30, 31, 32, 33, 34, 35, 36, 37, 38, 39, 40, 41, 42, 43, 44, 45, 46, 47, 48, 49, 50, 51, 52, 53, 54, 55, 14, 56, 57, 58, 59, 60, 61, 62, 63, 64, 65, 66, 67, 68, 69, 70, 71, 72, 73, 74, 75, 76, 77, 78, 79, 80, 81, 82, 83, 84, 85, 86, 87, 88, 89, 90, 91, 92, 93, 94, 95, 96, 97, 98, 99, 100, 101, 102, 103, 104, 105, 6, 106, 107, 108, 109, 110, 111, 112, 113, 114, 115, 116, 117, 118, 119, 120, 121, 122, 123, 124, 125, 126, 127, 128, 129, 130, 131, 132, 133, 134, 135, 136, 137, 138, 139, 140, 141, 142, 143, 144, 145, 146, 147, 148, 149, 150, 151, 152, 153, 154, 155, 156, 157, 158, 159, 160, 161, 162, 184, 185, 186, 187, 188, 189, 190, 191, 192, 193, 194, 195, 196, 197] (by decide +kernel) (by decide +kernel)
set_option maxRecDepth 20000 in
theorem gX8_order_X0_goThrough : GoodIn wsX8_order (wsV RX8 118 RX0 yX0_goThrough wsX0_goThrough) := goodIn_app (goodIn_of _ (by decide +kernel)) ggX8_order_X0_goThrough
set_option maxRecDepth 20000 in
theorem ggX8_order_X0_count : GoodIn wsX8_order wsX0_count := goodIn_r _ [166, 19, 184, 185, 186, 187, 188, 189, 190, 191, 192] (by decide +kernel) (by decide +kernel)
set_option maxRecDepth 20000 in
theorem gX8_order_X0_count : GoodIn wsX8_order (wsV RX8 124 RX0 yX0_count wsX0_count) := goodIn_app (goodIn_of _ (by decide +kernel)) ggX8_order_X0_count
set_option maxRecDepth 20000 in
theorem ggX8_order_X0_rowAt : GoodIn wsX8_order wsX0_rowAt := goodIn_r _ [170, 19, 95, 184, 185, 186, 187, 188, 189, 190, 191, 192] (by decide +kernel) (by decide +kernel)
set_option maxRecDepth 20000 in
theorem gX8_order_X0_rowAt : GoodIn wsX8_order (wsV RX8 128 RX0 yX0_rowAt wsX0_rowAt) := goodIn_app (goodIn_of _ (by decide +kernel)) ggX8_order_X0_rowAt
set_option maxRecDepth 20000 in
theorem ggX8_order_X4_length : GoodIn wsX8_order wsX4_length := goodIn_r _ [89] (by decide +kernel) (by decide +kernel)
set_option maxRecDepth 20000 in
theorem gX8_order_X4_length : GoodIn wsX8_order (va_wsS RX8 131 yX4_length wsX4_length) := goodIn_app (goodIn_of _ (by decide +kernel)) ggX8_order_X4_length
set_option maxRecDepth 20000 in
theorem ggX8_order_X4_threadAt : GoodIn wsX8_order wsX4_threadAt := goodIn_r _ [174] (by decide +kernel) (by decide +kernel)
set_option maxRecDepth 20000 in
theorem gX8_order_X4_threadAt : GoodIn wsX8_order (va_wsS RX8 136 yX4_threadAt wsX4_threadAt) := goodIn_app (goodIn_of _ (by decide +kernel)) ggX8_order_X4_threadAt
theorem dX8_order_0 : decode cX8_order 0 = .ok (.iload_n 1, 1) := by decide +kernel
theorem dX8_order_1 : decode cX8_order 1 = .ok (.ifCond .lt 8, 3) := by decide +kernel
theorem dX8_order_4 : decode cX8_order 4 = .ok (.iload_n 2, 1) := by decide +kernel
theorem dX8_order_5 : decode cX8_order 5 = .ok (.iconst (-1), 1) := by decide +kernel
theorem dX8_order_6 : decode cX8_order 6 = .ok (.if_icmp .ge 10, 3) := by decide +kernel
theorem dX8_order_9 : decode cX8_order 9 = .ok (.aload_n 0, 1) := by decide +kernel
theorem dX8_order_10 : decode cX8_order 10 = .ok (.bipush (-2), 2) := by decide +kernel
theorem dX8_order_12 : decode cX8_order 12 = .ok (.invokevirtual 57, 3) := by decide +kernel
theorem dX8_order_15 : decode cX8_order 15 = .ok (.ireturn, 1) := by decide +kernel
theorem dX8_order_16 : decode cX8_order 16 = .ok (.aload_n 0, 1) := by decide +kernel
theorem dX8_order_17 : decode cX8_order 17 = .ok (.getfield 29, 3) := by decide +kernel
theorem dX8_order_20 : decode cX8_order 20 = .ok (.aload_n 0, 1) := by decide +kernel
theorem dX8_order_21 : decode cX8_order 21 = .ok (.getfield 12, 3) := by decide +kernel
theorem dX8_order_24 : decode cX8_order 24 = .ok (.invokevirtual 118, 3) := by decide +kernel
theorem dX8_order_27 : decode cX8_order 27 = .ok (.iload_n 1, 1) := by decide +kernel
theorem dX8_order_28 : decode cX8_order 28 = .ok (.aload_n 0, 1) := by decide +kernel
theorem dX8_order_29 : decode cX8_order 29 = .ok (.getfield 29, 3) := by decide +kernel
theorem dX8_order_32 : decode cX8_order 32 = .ok (.invokevirtual 124, 3) := by decide +kernel
theorem dX8_order_35 : decode cX8_order 35 = .ok (.if_icmp .lt 10, 3) := by decide +kernel
theorem dX8_order_38 : decode cX8_order 38 = .ok (.aload_n 0, 1) := by decide +kernel
theorem dX8_order_39 : decode cX8_order 39 = .ok (.bipush (-3), 2) := by decide +kernel
theorem dX8_order_41 : decode cX8_order 41 = .ok (.invokevirtual 57, 3) := by decide +kernel
theorem dX8_order_44 : decode cX8_order 44 = .ok (.ireturn, 1) := by decide +kernel
theorem dX8_order_45 : decode cX8_order 45 = .ok (.aload_n 0, 1) := by decide +kernel
theorem dX8_order_46 : decode cX8_order 46 = .ok (.getfield 29, 3) := by decide +kernel
theorem dX8_order_49 : decode cX8_order 49 = .ok (.iload_n 1, 1) := by decide +kernel
theorem dX8_order_50 : decode cX8_order 50 = .ok (.invokevirtual 128, 3) := by decide +kernel
theorem dX8_order_53 : decode cX8_order 53 = .ok (.istore_n 3, 1) := by decide +kernel
theorem dX8_order_54 : decode cX8_order 54 = .ok (.iload_n 2, 1) := by decide +kernel
theorem dX8_order_55 : decode cX8_order 55 = .ok (.iconst (-1), 1) := by decide +kernel
theorem dX8_order_56 : decode cX8_order 56 = .ok (.if_icmp .ne 8, 3) := by decide +kernel
theorem dX8_order_59 : decode cX8_order 59 = .ok (.iload_n 3, 1) := by decide +kernel
theorem dX8_order_60 : decode cX8_order 60 = .ok (.invokestatic 131, 3) := by decide +kernel
theorem dX8_order_63 : decode cX8_order 63 = .ok (.ireturn, 1) := by decide +kernel
theorem dX8_order_64 : decode cX8_order 64 = .ok (.iload_n 2, 1) := by decide +kernel
theorem dX8_order_65 : decode cX8_order 65 = .ok (.iload_n 3, 1) := by decide +kernel
theorem dX8_order_66 : decode cX8_order 66 = .ok (.invokestatic 131, 3) := by decide +kernel
theorem dX8_order_69 : decode cX8_order 69 = .ok (.if_icmp .ge 11, 3) := by decide +kernel
theorem dX8_order_72 : decode cX8_order 72 = .ok (.iload_n 3, 1) := by decide +kernel
theorem dX8_order_73 : decode cX8_order 73 = .ok (.iload_n 2, 1) := by decide +kernel
theorem dX8_order_74 : decode cX8_order 74 = .ok (.invokestatic 136, 3) := by decide +kernel
theorem dX8_order_77 : decode cX8_order 77 = .ok (.goto 5, 3) := by decide +kernel
theorem dX8_order_80 : decode cX8_order 80 = .ok (.bipush (-5), 2) := by decide +kernel
theorem dX8_order_82 : decode cX8_order 82 = .ok (.ireturn, 1) := by decide +kernel
set_option maxRecDepth 20000 in
theorem ggX8_sort_X8_below : GoodIn wsX8_sort wsX8_below := goodIn_r _ [6] (by decide +kernel) (by decide +kernel)
set_option maxRecDepth 20000 in
theorem gX8_sort_X8_below : GoodIn wsX8_sort (va_wsS RX8 47 yX8_below wsX8_below) := goodIn_app (goodIn_of _ (by decide +kernel)) ggX8_sort_X8_below
set_option maxRecDepth 20000 in
theorem ggX8_sort_X8_refused : GoodIn wsX8_sort wsX8_refused := goodIn_r _ [10, 11, 12, 13, 185, 186, 187, 188, 189, 190, 191, 192, 193] (by decide +kernel) (by decide +kernel)
set_option maxRecDepth 20000 in
theorem gX8_sort_X8_refused : GoodIn wsX8_sort (wsV RX8 57 RX8 yX8_refused wsX8_refused) := goodIn_app (goodIn_of _ (by decide +kernel)) ggX8_sort_X8_refused
set_option maxRecDepth 20000 in
theorem ggX8_sort_X0_goThrough : GoodIn wsX8_sort wsX0_goThrough := goodIn_r _ [18, 19, 20, 21, 22, 23, 24, 25, 26, 27, 28, 29, 30, 31, 32, 33, 34, 35, 36, 37, 38, 39, 40, 41, 42, 43, 44, 45, 46, 47, 48, 49, 50, 51, 52, 53, 54, 55, 56, 57, 58, 17, 59, 60, 61, 62, 63, 64, 65, 66, 67, 68, 69, 70, 71, 72, 73, 74, 75, 76, 77, 78, 79, 80, 81, 82, 83, 84, 85, 86, 87, 88, 89, 90, 91, 92, 93, 94, 95, 96, 97, 98, 99, 100, 101, 102, 103, 104, 105, 106, 107, 4, 5, 6, 108, 109, 110, 111, 112, 113, 114, 115, 116, 117, 118, 119, 120, 121, 122, 123, 124, 125, 126, 127, 128, 129, 130, 131, 132, 133, 134, 135, 136, 137, 138, 139, 140, 141, 142, 143, 144, 145, 146, 147, 148, 149, 150, 151, 152, 153, 154, 155, 156, 157, 158, 159, 160, 161, 162, 163, 194, 195, 196, 197, 198, 199, 200, 201, 202, 203, 204, 205, 206, 207] (by decide +kernel) (by decide +kernel)
set_option maxRecDepth 20000 in
theorem gX8_sort_X0_goThrough : GoodIn wsX8_sort (wsV RX8 118 RX0 yX0_goThrough wsX0_goThrough) := goodIn_app (goodIn_of _ (by decide +kernel)) ggX8_sort_X0_goThrough
set_option maxRecDepth 20000 in
theorem ggX8_sort_X0_count : GoodIn wsX8_sort wsX0_count := goodIn_r _ [167, 22, 194, 195, 196, 197, 198, 199, 200, 201, 202] (by decide +kernel) (by decide +kernel)
set_option maxRecDepth 20000 in
theorem gX8_sort_X0_count : GoodIn wsX8_sort (wsV RX8 124 RX0 yX0_count wsX0_count) := goodIn_app (goodIn_of _ (by decide +kernel)) ggX8_sort_X0_count
set_option maxRecDepth 20000 in
theorem ggX8_sort_X0_rowAt : GoodIn wsX8_sort wsX0_rowAt := goodIn_r _ [171, 22, 98, 194, 195, 196, 197, 198, 199, 200, 201, 202] (by decide +kernel) (by decide +kernel)
set_option maxRecDepth 20000 in
theorem gX8_sort_X0_rowAt : GoodIn wsX8_sort (wsV RX8 128 RX0 yX0_rowAt wsX0_rowAt) := goodIn_app (goodIn_of _ (by decide +kernel)) ggX8_sort_X0_rowAt
set_option maxRecDepth 20000 in
theorem ggX8_sort_X5_momentBehind : GoodIn wsX8_sort wsX5_momentBehind := goodIn_r _ [175, 32, 176, 90, 91, 92, 177, 178, 179, 180, 141, 142, 30, 143, 68, 69, 70, 71, 72, 73, 74, 75, 76, 77, 78, 34, 35, 36, 37, 33, 38, 144, 145, 146, 147, 148, 149, 150, 151, 83, 84, 81, 85, 152, 132, 133, 153, 106, 107, 79, 80, 82, 154, 155, 156, 157, 158, 159, 160, 100, 101, 161, 162, 163, 203, 204, 205, 206, 207] (by decide +kernel) (by decide +kernel)
set_option maxRecDepth 20000 in
theorem gX8_sort_X5_momentBehind : GoodIn wsX8_sort (wsV RX8 139 RX5 yX5_momentBehind wsX5_momentBehind) := goodIn_app (goodIn_of _ (by decide +kernel)) ggX8_sort_X5_momentBehind
set_option maxRecDepth 20000 in
theorem ggX8_sort_X2_ending : GoodIn wsX8_sort wsX2_ending := goodIn_r _ [104, 105, 106, 74, 107, 76, 77, 78] (by decide +kernel) (by decide +kernel)
set_option maxRecDepth 20000 in
theorem gX8_sort_X2_ending : GoodIn wsX8_sort (va_wsS RX8 143 yX2_ending wsX2_ending) := goodIn_app (goodIn_of _ (by decide +kernel)) ggX8_sort_X2_ending
set_option maxRecDepth 20000 in
theorem ggX8_sort_X2_wrongOnes : GoodIn wsX8_sort wsX2_wrongOnes := goodIn_r _ [101, 76, 77, 74, 78] (by decide +kernel) (by decide +kernel)
set_option maxRecDepth 20000 in
theorem gX8_sort_X2_wrongOnes : GoodIn wsX8_sort (va_wsS RX8 147 yX2_wrongOnes wsX2_wrongOnes) := goodIn_app (goodIn_of _ (by decide +kernel)) ggX8_sort_X2_wrongOnes
set_option maxRecDepth 20000 in
theorem ggX8_sort_X4_length : GoodIn wsX8_sort wsX4_length := goodIn_r _ [92] (by decide +kernel) (by decide +kernel)
set_option maxRecDepth 20000 in
theorem gX8_sort_X4_length : GoodIn wsX8_sort (va_wsS RX8 131 yX4_length wsX4_length) := goodIn_app (goodIn_of _ (by decide +kernel)) ggX8_sort_X4_length
set_option maxRecDepth 20000 in
theorem ggX8_sort_X5_stepsInAll : GoodIn wsX8_sort wsX5_stepsInAll := goodIn_r _ [52, 33, 203, 204, 205, 206, 207] (by decide +kernel) (by decide +kernel)
set_option maxRecDepth 20000 in
theorem gX8_sort_X5_stepsInAll : GoodIn wsX8_sort (wsV RX8 150 RX5 yX5_stepsInAll wsX5_stepsInAll) := goodIn_app (goodIn_of _ (by decide +kernel)) ggX8_sort_X5_stepsInAll
theorem dX8_sort_0 : decode cX8_sort 0 = .ok (.iload_n 1, 1) := by decide +kernel
theorem dX8_sort_1 : decode cX8_sort 1 = .ok (.ifCond .lt 11, 3) := by decide +kernel
theorem dX8_sort_4 : decode cX8_sort 4 = .ok (.iload_n 2, 1) := by decide +kernel
theorem dX8_sort_5 : decode cX8_sort 5 = .ok (.iconst 3, 1) := by decide +kernel
theorem dX8_sort_6 : decode cX8_sort 6 = .ok (.invokestatic 47, 3) := by decide +kernel
theorem dX8_sort_9 : decode cX8_sort 9 = .ok (.ifCond .ne 10, 3) := by decide +kernel
theorem dX8_sort_12 : decode cX8_sort 12 = .ok (.aload_n 0, 1) := by decide +kernel
theorem dX8_sort_13 : decode cX8_sort 13 = .ok (.bipush (-2), 2) := by decide +kernel
theorem dX8_sort_15 : decode cX8_sort 15 = .ok (.invokevirtual 57, 3) := by decide +kernel
theorem dX8_sort_18 : decode cX8_sort 18 = .ok (.ireturn, 1) := by decide +kernel
theorem dX8_sort_19 : decode cX8_sort 19 = .ok (.aload_n 0, 1) := by decide +kernel
theorem dX8_sort_20 : decode cX8_sort 20 = .ok (.getfield 29, 3) := by decide +kernel
theorem dX8_sort_23 : decode cX8_sort 23 = .ok (.aload_n 0, 1) := by decide +kernel
theorem dX8_sort_24 : decode cX8_sort 24 = .ok (.getfield 12, 3) := by decide +kernel
theorem dX8_sort_27 : decode cX8_sort 27 = .ok (.invokevirtual 118, 3) := by decide +kernel
theorem dX8_sort_30 : decode cX8_sort 30 = .ok (.iload_n 1, 1) := by decide +kernel
theorem dX8_sort_31 : decode cX8_sort 31 = .ok (.aload_n 0, 1) := by decide +kernel
theorem dX8_sort_32 : decode cX8_sort 32 = .ok (.getfield 29, 3) := by decide +kernel
theorem dX8_sort_35 : decode cX8_sort 35 = .ok (.invokevirtual 124, 3) := by decide +kernel
theorem dX8_sort_38 : decode cX8_sort 38 = .ok (.if_icmp .lt 10, 3) := by decide +kernel
theorem dX8_sort_41 : decode cX8_sort 41 = .ok (.aload_n 0, 1) := by decide +kernel
theorem dX8_sort_42 : decode cX8_sort 42 = .ok (.bipush (-3), 2) := by decide +kernel
theorem dX8_sort_44 : decode cX8_sort 44 = .ok (.invokevirtual 57, 3) := by decide +kernel
theorem dX8_sort_47 : decode cX8_sort 47 = .ok (.ireturn, 1) := by decide +kernel
theorem dX8_sort_48 : decode cX8_sort 48 = .ok (.aload_n 0, 1) := by decide +kernel
theorem dX8_sort_49 : decode cX8_sort 49 = .ok (.getfield 29, 3) := by decide +kernel
theorem dX8_sort_52 : decode cX8_sort 52 = .ok (.iload_n 1, 1) := by decide +kernel
theorem dX8_sort_53 : decode cX8_sort 53 = .ok (.invokevirtual 128, 3) := by decide +kernel
theorem dX8_sort_56 : decode cX8_sort 56 = .ok (.istore_n 3, 1) := by decide +kernel
theorem dX8_sort_57 : decode cX8_sort 57 = .ok (.iload_n 2, 1) := by decide +kernel
theorem dX8_sort_58 : decode cX8_sort 58 = .ok (.lookupswitch 50 #[(0, 26), (1, 38)], 26) := by decide +kernel
theorem dX8_sort_84 : decode cX8_sort 84 = .ok (.aload_n 0, 1) := by decide +kernel
theorem dX8_sort_85 : decode cX8_sort 85 = .ok (.getfield 12, 3) := by decide +kernel
theorem dX8_sort_88 : decode cX8_sort 88 = .ok (.iload_n 3, 1) := by decide +kernel
theorem dX8_sort_89 : decode cX8_sort 89 = .ok (.invokevirtual 139, 3) := by decide +kernel
theorem dX8_sort_92 : decode cX8_sort 92 = .ok (.invokestatic 143, 3) := by decide +kernel
theorem dX8_sort_95 : decode cX8_sort 95 = .ok (.ireturn, 1) := by decide +kernel
theorem dX8_sort_96 : decode cX8_sort 96 = .ok (.aload_n 0, 1) := by decide +kernel
theorem dX8_sort_97 : decode cX8_sort 97 = .ok (.getfield 12, 3) := by decide +kernel
theorem dX8_sort_100 : decode cX8_sort 100 = .ok (.iload_n 3, 1) := by decide +kernel
theorem dX8_sort_101 : decode cX8_sort 101 = .ok (.invokevirtual 139, 3) := by decide +kernel
theorem dX8_sort_104 : decode cX8_sort 104 = .ok (.invokestatic 147, 3) := by decide +kernel
theorem dX8_sort_107 : decode cX8_sort 107 = .ok (.ireturn, 1) := by decide +kernel
theorem dX8_sort_108 : decode cX8_sort 108 = .ok (.iload_n 3, 1) := by decide +kernel
theorem dX8_sort_109 : decode cX8_sort 109 = .ok (.invokestatic 131, 3) := by decide +kernel
theorem dX8_sort_112 : decode cX8_sort 112 = .ok (.aload_n 0, 1) := by decide +kernel
theorem dX8_sort_113 : decode cX8_sort 113 = .ok (.getfield 12, 3) := by decide +kernel
theorem dX8_sort_116 : decode cX8_sort 116 = .ok (.invokevirtual 150, 3) := by decide +kernel
theorem dX8_sort_119 : decode cX8_sort 119 = .ok (.if_icmp .ge 7, 3) := by decide +kernel
theorem dX8_sort_122 : decode cX8_sort 122 = .ok (.iconst 1, 1) := by decide +kernel
theorem dX8_sort_123 : decode cX8_sort 123 = .ok (.goto 4, 3) := by decide +kernel
theorem dX8_sort_126 : decode cX8_sort 126 = .ok (.iconst 0, 1) := by decide +kernel
theorem dX8_sort_127 : decode cX8_sort 127 = .ok (.ireturn, 1) := by decide +kernel
set_option maxRecDepth 20000 in
theorem ggX8_ends_X8_refused : GoodIn wsX8_ends wsX8_refused := goodIn_r _ [7, 8, 9, 10, 167, 168, 169, 170, 171, 172, 173, 174, 175] (by decide +kernel) (by decide +kernel)
set_option maxRecDepth 20000 in
theorem gX8_ends_X8_refused : GoodIn wsX8_ends (wsV RX8 57 RX8 yX8_refused wsX8_refused) := goodIn_app (goodIn_of _ (by decide +kernel)) ggX8_ends_X8_refused
set_option maxRecDepth 20000 in
theorem ggX8_ends_X0_goThrough : GoodIn wsX8_ends wsX0_goThrough := goodIn_r _ [15, 16, 17, 18, 19, 20, 21, 22, 23, 24, 25, 26, 27, 28, 29, 30, 31, 32, 33, 34, 35, 36, 37, 38, 39, 40, 41, 42, 43, 44, 45, 46, 47, 48, 49, 50, 51, 52, 53, 54, 55, 14, 56, 57, 58, 59, 60, 61, 62, 63, 64, 65, 66, 67, 68, 69, 70, 71, 72, 73, 74, 75, 76, 77, 78, 79, 80, 81, 82, 83, 84, 85, 86, 87, 88, 89, 90, 91, 92, 93, 94, 95, 96, 97, 98, 99, 100, 101, 102, 103, 104, 105, 6, 106, 107, 108, 109, 110, 111, 112, 113, 114, 115, 116, 117, 118, 119, 120, 121, 122, 123, 124, 125, 126, 127, 128, 129, 130, 131, 132, 133, 134, 135, 136, 137, 138, 139, 140, 141, 142, 143, 144, 145, 146, 147, 148, 149, 150, 151, 152, 153, 154, 155, 156, 157, 158, 159, 160, 161, 162, 176, 177, 178, 179, 180, 181, 182, 183, 184, 185, 186, 187, 188, 189] (by decide +kernel) (by decide +kernel)
set_option maxRecDepth 20000 in
theorem gX8_ends_X0_goThrough : GoodIn wsX8_ends (wsV RX8 118 RX0 yX0_goThrough wsX0_goThrough) := goodIn_app (goodIn_of _ (by decide +kernel)) ggX8_ends_X0_goThrough
set_option maxRecDepth 20000 in
theorem ggX8_ends_X0_endsAt : GoodIn wsX8_ends wsX0_endsAt := goodIn_r _ [166, 23, 105, 6, 106, 176, 177, 178, 179, 180, 181, 182, 183, 184] (by decide +kernel) (by decide +kernel)
set_option maxRecDepth 20000 in
theorem gX8_ends_X0_endsAt : GoodIn wsX8_ends (wsV RX8 153 RX0 yX0_endsAt wsX0_endsAt) := goodIn_app (goodIn_of _ (by decide +kernel)) ggX8_ends_X0_endsAt
theorem dX8_ends_0 : decode cX8_ends 0 = .ok (.iload_n 1, 1) := by decide +kernel
theorem dX8_ends_1 : decode cX8_ends 1 = .ok (.ifCond .ge 10, 3) := by decide +kernel
theorem dX8_ends_4 : decode cX8_ends 4 = .ok (.aload_n 0, 1) := by decide +kernel
theorem dX8_ends_5 : decode cX8_ends 5 = .ok (.bipush (-2), 2) := by decide +kernel
theorem dX8_ends_7 : decode cX8_ends 7 = .ok (.invokevirtual 57, 3) := by decide +kernel
theorem dX8_ends_10 : decode cX8_ends 10 = .ok (.ireturn, 1) := by decide +kernel
theorem dX8_ends_11 : decode cX8_ends 11 = .ok (.aload_n 0, 1) := by decide +kernel
theorem dX8_ends_12 : decode cX8_ends 12 = .ok (.getfield 29, 3) := by decide +kernel
theorem dX8_ends_15 : decode cX8_ends 15 = .ok (.aload_n 0, 1) := by decide +kernel
theorem dX8_ends_16 : decode cX8_ends 16 = .ok (.getfield 12, 3) := by decide +kernel
theorem dX8_ends_19 : decode cX8_ends 19 = .ok (.invokevirtual 118, 3) := by decide +kernel
theorem dX8_ends_22 : decode cX8_ends 22 = .ok (.iload_n 1, 1) := by decide +kernel
theorem dX8_ends_23 : decode cX8_ends 23 = .ok (.istore_n 2, 1) := by decide +kernel
theorem dX8_ends_24 : decode cX8_ends 24 = .ok (.iconst 0, 1) := by decide +kernel
theorem dX8_ends_25 : decode cX8_ends 25 = .ok (.istore_n 3, 1) := by decide +kernel
theorem dX8_ends_26 : decode cX8_ends 26 = .ok (.iload_n 3, 1) := by decide +kernel
theorem dX8_ends_27 : decode cX8_ends 27 = .ok (.sipush 10000, 3) := by decide +kernel
theorem dX8_ends_30 : decode cX8_ends 30 = .ok (.if_icmp .ge 29, 3) := by decide +kernel
theorem dX8_ends_33 : decode cX8_ends 33 = .ok (.aload_n 0, 1) := by decide +kernel
theorem dX8_ends_34 : decode cX8_ends 34 = .ok (.getfield 29, 3) := by decide +kernel
theorem dX8_ends_37 : decode cX8_ends 37 = .ok (.iload_n 3, 1) := by decide +kernel
theorem dX8_ends_38 : decode cX8_ends 38 = .ok (.invokevirtual 153, 3) := by decide +kernel
theorem dX8_ends_41 : decode cX8_ends 41 = .ok (.ifCond .eq 12, 3) := by decide +kernel
theorem dX8_ends_44 : decode cX8_ends 44 = .ok (.iload_n 2, 1) := by decide +kernel
theorem dX8_ends_45 : decode cX8_ends 45 = .ok (.ifCond .ne 5, 3) := by decide +kernel
theorem dX8_ends_48 : decode cX8_ends 48 = .ok (.iload_n 3, 1) := by decide +kernel
theorem dX8_ends_49 : decode cX8_ends 49 = .ok (.ireturn, 1) := by decide +kernel
theorem dX8_ends_50 : decode cX8_ends 50 = .ok (.iinc 2 (-1), 3) := by decide +kernel
theorem dX8_ends_53 : decode cX8_ends 53 = .ok (.iinc 3 1, 3) := by decide +kernel
theorem dX8_ends_56 : decode cX8_ends 56 = .ok (.goto (-30), 3) := by decide +kernel
theorem dX8_ends_59 : decode cX8_ends 59 = .ok (.bipush (-5), 2) := by decide +kernel
theorem dX8_ends_61 : decode cX8_ends 61 = .ok (.ireturn, 1) := by decide +kernel
set_option maxRecDepth 20000 in
theorem ggX8_race_X5_hasStep : GoodIn wsX8_race wsX5_hasStep := goodIn_r _ [7, 8, 9, 10, 6, 11, 12, 13, 14, 15, 128, 129, 130, 131, 132] (by decide +kernel) (by decide +kernel)
set_option maxRecDepth 20000 in
theorem gX8_race_X5_hasStep : GoodIn wsX8_race (wsV RX8 93 RX5 yX5_hasStep wsX5_hasStep) := goodIn_app (goodIn_of _ (by decide +kernel)) ggX8_race_X5_hasStep
set_option maxRecDepth 20000 in
theorem ggX8_race_X8_refused : GoodIn wsX8_race wsX8_refused := goodIn_r _ [19, 20, 21, 22, 119, 120, 121, 122, 123, 124, 125, 126, 127] (by decide +kernel) (by decide +kernel)
set_option maxRecDepth 20000 in
theorem gX8_race_X8_refused : GoodIn wsX8_race (wsV RX8 57 RX8 yX8_refused wsX8_refused) := goodIn_app (goodIn_of _ (by decide +kernel)) ggX8_race_X8_refused
set_option maxRecDepth 20000 in
theorem ggX8_race_X1_goThrough : GoodIn wsX8_race wsX1_goThrough := goodIn_r _ [27, 28, 29, 30, 31, 6, 32, 33, 34, 35, 26, 36, 37, 38, 39, 40, 41, 42, 43, 44, 45, 46, 13, 14, 15, 47, 48, 49, 50, 51, 52, 53, 54, 55, 56, 57, 58, 59, 12, 60, 61, 62, 63, 64, 65, 66, 67, 68, 69, 70, 71, 72, 73, 74, 75, 76, 77, 78, 79, 80, 81, 82, 83, 84, 85, 86, 87, 88, 89, 90, 91, 92, 93, 94, 95, 96, 97, 98, 99, 100, 133, 128, 129, 130, 131, 132] (by decide +kernel) (by decide +kernel)
set_option maxRecDepth 20000 in
theorem gX8_race_X1_goThrough : GoodIn wsX8_race (wsV RX8 157 RX1 yX1_goThrough wsX1_goThrough) := goodIn_app (goodIn_of _ (by decide +kernel)) ggX8_race_X1_goThrough
set_option maxRecDepth 20000 in
theorem ggX8_race_X1_isRace : GoodIn wsX8_race wsX1_isRace := goodIn_r _ [104, 28, 105, 57, 58, 6, 59, 12, 60, 106, 107, 63, 108, 109, 110, 111, 112, 62, 64, 113, 66, 67, 114, 115, 116, 117, 84, 85, 118, 76, 42, 77, 78, 79, 80, 81, 82, 37, 38, 26, 39, 40, 41, 43, 44, 45, 46, 13, 14, 15, 133, 128, 129, 130, 131, 132] (by decide +kernel) (by decide +kernel)
set_option maxRecDepth 20000 in
theorem gX8_race_X1_isRace : GoodIn wsX8_race (wsV RX8 158 RX1 yX1_isRace wsX1_isRace) := goodIn_app (goodIn_of _ (by decide +kernel)) ggX8_race_X1_isRace
theorem dX8_race_0 : decode cX8_race 0 = .ok (.aload_n 0, 1) := by decide +kernel
theorem dX8_race_1 : decode cX8_race 1 = .ok (.getfield 12, 3) := by decide +kernel
theorem dX8_race_4 : decode cX8_race 4 = .ok (.iload_n 1, 1) := by decide +kernel
theorem dX8_race_5 : decode cX8_race 5 = .ok (.iload_n 2, 1) := by decide +kernel
theorem dX8_race_6 : decode cX8_race 6 = .ok (.invokevirtual 93, 3) := by decide +kernel
theorem dX8_race_9 : decode cX8_race 9 = .ok (.ifCond .eq 21, 3) := by decide +kernel
theorem dX8_race_12 : decode cX8_race 12 = .ok (.aload_n 0, 1) := by decide +kernel
theorem dX8_race_13 : decode cX8_race 13 = .ok (.getfield 12, 3) := by decide +kernel
theorem dX8_race_16 : decode cX8_race 16 = .ok (.iload_n 3, 1) := by decide +kernel
theorem dX8_race_17 : decode cX8_race 17 = .ok (.iload 4, 2) := by decide +kernel
theorem dX8_race_19 : decode cX8_race 19 = .ok (.invokevirtual 93, 3) := by decide +kernel
theorem dX8_race_22 : decode cX8_race 22 = .ok (.ifCond .eq 8, 3) := by decide +kernel
theorem dX8_race_25 : decode cX8_race 25 = .ok (.iload_n 1, 1) := by decide +kernel
theorem dX8_race_26 : decode cX8_race 26 = .ok (.iload_n 3, 1) := by decide +kernel
theorem dX8_race_27 : decode cX8_race 27 = .ok (.if_icmp .ne 10, 3) := by decide +kernel
theorem dX8_race_30 : decode cX8_race 30 = .ok (.aload_n 0, 1) := by decide +kernel
theorem dX8_race_31 : decode cX8_race 31 = .ok (.bipush (-2), 2) := by decide +kernel
theorem dX8_race_33 : decode cX8_race 33 = .ok (.invokevirtual 57, 3) := by decide +kernel
theorem dX8_race_36 : decode cX8_race 36 = .ok (.ireturn, 1) := by decide +kernel
theorem dX8_race_37 : decode cX8_race 37 = .ok (.aload_n 0, 1) := by decide +kernel
theorem dX8_race_38 : decode cX8_race 38 = .ok (.getfield 36, 3) := by decide +kernel
theorem dX8_race_41 : decode cX8_race 41 = .ok (.aload_n 0, 1) := by decide +kernel
theorem dX8_race_42 : decode cX8_race 42 = .ok (.getfield 12, 3) := by decide +kernel
theorem dX8_race_45 : decode cX8_race 45 = .ok (.invokevirtual 157, 3) := by decide +kernel
theorem dX8_race_48 : decode cX8_race 48 = .ok (.aload_n 0, 1) := by decide +kernel
theorem dX8_race_49 : decode cX8_race 49 = .ok (.getfield 36, 3) := by decide +kernel
theorem dX8_race_52 : decode cX8_race 52 = .ok (.aload_n 0, 1) := by decide +kernel
theorem dX8_race_53 : decode cX8_race 53 = .ok (.getfield 12, 3) := by decide +kernel
theorem dX8_race_56 : decode cX8_race 56 = .ok (.iload_n 1, 1) := by decide +kernel
theorem dX8_race_57 : decode cX8_race 57 = .ok (.iload_n 2, 1) := by decide +kernel
theorem dX8_race_58 : decode cX8_race 58 = .ok (.iload_n 3, 1) := by decide +kernel
theorem dX8_race_59 : decode cX8_race 59 = .ok (.iload 4, 2) := by decide +kernel
theorem dX8_race_61 : decode cX8_race 61 = .ok (.invokevirtual 158, 3) := by decide +kernel
theorem dX8_race_64 : decode cX8_race 64 = .ok (.ifCond .eq 7, 3) := by decide +kernel
theorem dX8_race_67 : decode cX8_race 67 = .ok (.iconst 1, 1) := by decide +kernel
theorem dX8_race_68 : decode cX8_race 68 = .ok (.goto 4, 3) := by decide +kernel
theorem dX8_race_71 : decode cX8_race 71 = .ok (.iconst 0, 1) := by decide +kernel
theorem dX8_race_72 : decode cX8_race 72 = .ok (.ireturn, 1) := by decide +kernel
set_option maxRecDepth 20000 in
theorem ggX8_races_X1_goThrough : GoodIn wsX8_races wsX1_goThrough := goodIn_r _ [7, 8, 9, 10, 11, 12, 13, 14, 15, 16, 6, 17, 18, 19, 20, 21, 22, 23, 24, 25, 26, 27, 28, 29, 30, 31, 32, 33, 34, 35, 36, 37, 38, 39, 40, 41, 42, 43, 44, 45, 46, 47, 48, 49, 50, 51, 52, 53, 54, 55, 56, 57, 58, 59, 60, 61, 62, 63, 64, 65, 66, 67, 68, 69, 70, 71, 72, 73, 74, 75, 76, 77, 78, 79, 80, 81, 82, 83, 84, 85, 121, 122, 123, 124, 125, 126] (by decide +kernel) (by decide +kernel)
set_option maxRecDepth 20000 in
theorem gX8_races_X1_goThrough : GoodIn wsX8_races (wsV RX8 157 RX1 yX1_goThrough wsX1_goThrough) := goodIn_app (goodIn_of _ (by decide +kernel)) ggX8_races_X1_goThrough
set_option maxRecDepth 20000 in
theorem ggX8_races_X8_racesBetween : GoodIn wsX8_races wsX8_racesBetween := goodIn_r _ [89, 2, 1, 90, 91, 92, 12, 93, 44, 28, 29, 30, 94, 95, 96, 6, 97, 8, 98, 41, 42, 43, 45, 99, 100, 48, 101, 102, 103, 104, 105, 47, 49, 106, 51, 52, 107, 108, 109, 110, 69, 70, 111, 61, 23, 62, 63, 64, 65, 66, 67, 18, 19, 20, 21, 22, 24, 25, 26, 27, 112, 113, 114, 115, 116, 117, 118, 119, 120, 122, 123, 124, 125, 126, 121] (by decide +kernel) (by decide +kernel)
set_option maxRecDepth 20000 in
theorem gX8_races_X8_racesBetween : GoodIn wsX8_races (wsV RX8 162 RX8 yX8_racesBetween wsX8_racesBetween) := goodIn_app (goodIn_of _ (by decide +kernel)) ggX8_races_X8_racesBetween
theorem dX8_races_0 : decode cX8_races 0 = .ok (.aload_n 0, 1) := by decide +kernel
theorem dX8_races_1 : decode cX8_races 1 = .ok (.getfield 36, 3) := by decide +kernel
theorem dX8_races_4 : decode cX8_races 4 = .ok (.aload_n 0, 1) := by decide +kernel
theorem dX8_races_5 : decode cX8_races 5 = .ok (.getfield 12, 3) := by decide +kernel
theorem dX8_races_8 : decode cX8_races 8 = .ok (.invokevirtual 157, 3) := by decide +kernel
theorem dX8_races_11 : decode cX8_races 11 = .ok (.iconst 0, 1) := by decide +kernel
theorem dX8_races_12 : decode cX8_races 12 = .ok (.istore_n 1, 1) := by decide +kernel
theorem dX8_races_13 : decode cX8_races 13 = .ok (.iconst 0, 1) := by decide +kernel
theorem dX8_races_14 : decode cX8_races 14 = .ok (.istore_n 2, 1) := by decide +kernel
theorem dX8_races_15 : decode cX8_races 15 = .ok (.iload_n 2, 1) := by decide +kernel
theorem dX8_races_16 : decode cX8_races 16 = .ok (.iconst 3, 1) := by decide +kernel
theorem dX8_races_17 : decode cX8_races 17 = .ok (.if_icmp .ge 33, 3) := by decide +kernel
theorem dX8_races_20 : decode cX8_races 20 = .ok (.iload_n 2, 1) := by decide +kernel
theorem dX8_races_21 : decode cX8_races 21 = .ok (.iconst 1, 1) := by decide +kernel
theorem dX8_races_22 : decode cX8_races 22 = .ok (.iadd, 1) := by decide +kernel
theorem dX8_races_23 : decode cX8_races 23 = .ok (.istore_n 3, 1) := by decide +kernel
theorem dX8_races_24 : decode cX8_races 24 = .ok (.iload_n 3, 1) := by decide +kernel
theorem dX8_races_25 : decode cX8_races 25 = .ok (.iconst 3, 1) := by decide +kernel
theorem dX8_races_26 : decode cX8_races 26 = .ok (.if_icmp .ge 18, 3) := by decide +kernel
theorem dX8_races_29 : decode cX8_races 29 = .ok (.iload_n 1, 1) := by decide +kernel
theorem dX8_races_30 : decode cX8_races 30 = .ok (.aload_n 0, 1) := by decide +kernel
theorem dX8_races_31 : decode cX8_races 31 = .ok (.iload_n 2, 1) := by decide +kernel
theorem dX8_races_32 : decode cX8_races 32 = .ok (.iload_n 3, 1) := by decide +kernel
theorem dX8_races_33 : decode cX8_races 33 = .ok (.invokevirtual 162, 3) := by decide +kernel
theorem dX8_races_36 : decode cX8_races 36 = .ok (.iadd, 1) := by decide +kernel
theorem dX8_races_37 : decode cX8_races 37 = .ok (.istore_n 1, 1) := by decide +kernel
theorem dX8_races_38 : decode cX8_races 38 = .ok (.iinc 3 1, 3) := by decide +kernel
theorem dX8_races_41 : decode cX8_races 41 = .ok (.goto (-17), 3) := by decide +kernel
theorem dX8_races_44 : decode cX8_races 44 = .ok (.iinc 2 1, 3) := by decide +kernel
theorem dX8_races_47 : decode cX8_races 47 = .ok (.goto (-32), 3) := by decide +kernel
theorem dX8_races_50 : decode cX8_races 50 = .ok (.iload_n 1, 1) := by decide +kernel
theorem dX8_races_51 : decode cX8_races 51 = .ok (.ireturn, 1) := by decide +kernel
set_option maxRecDepth 20000 in
theorem ggX8_racesBetween_X5_stepsOf : GoodIn wsX8_racesBetween wsX5_stepsOf := goodIn_r _ [7, 8, 9, 10, 11, 69, 70, 71, 72, 73] (by decide +kernel) (by decide +kernel)
set_option maxRecDepth 20000 in
theorem gX8_racesBetween_X5_stepsOf : GoodIn wsX8_racesBetween (wsV RX8 61 RX5 yX5_stepsOf wsX5_stepsOf) := goodIn_app (goodIn_of _ (by decide +kernel)) ggX8_racesBetween_X5_stepsOf
set_option maxRecDepth 20000 in
theorem ggX8_racesBetween_X1_isRace : GoodIn wsX8_racesBetween wsX1_isRace := goodIn_r _ [16, 17, 18, 19, 20, 6, 21, 8, 22, 23, 24, 25, 26, 27, 28, 29, 30, 31, 32, 33, 34, 35, 36, 37, 38, 39, 40, 41, 42, 43, 44, 45, 46, 47, 48, 49, 50, 51, 52, 15, 53, 54, 55, 56, 57, 58, 59, 9, 10, 11, 74, 69, 70, 71, 72, 73] (by decide +kernel) (by decide +kernel)
set_option maxRecDepth 20000 in
theorem gX8_racesBetween_X1_isRace : GoodIn wsX8_racesBetween (wsV RX8 158 RX1 yX1_isRace wsX1_isRace) := goodIn_app (goodIn_of _ (by decide +kernel)) ggX8_racesBetween_X1_isRace
theorem dX8_racesBetween_0 : decode cX8_racesBetween 0 = .ok (.iconst 0, 1) := by decide +kernel
theorem dX8_racesBetween_1 : decode cX8_racesBetween 1 = .ok (.istore_n 3, 1) := by decide +kernel
theorem dX8_racesBetween_2 : decode cX8_racesBetween 2 = .ok (.iconst 0, 1) := by decide +kernel
theorem dX8_racesBetween_3 : decode cX8_racesBetween 3 = .ok (.istore 4, 2) := by decide +kernel
theorem dX8_racesBetween_5 : decode cX8_racesBetween 5 = .ok (.iload 4, 2) := by decide +kernel
theorem dX8_racesBetween_7 : decode cX8_racesBetween 7 = .ok (.aload_n 0, 1) := by decide +kernel
theorem dX8_racesBetween_8 : decode cX8_racesBetween 8 = .ok (.getfield 12, 3) := by decide +kernel
theorem dX8_racesBetween_11 : decode cX8_racesBetween 11 = .ok (.iload_n 1, 1) := by decide +kernel
theorem dX8_racesBetween_12 : decode cX8_racesBetween 12 = .ok (.invokevirtual 61, 3) := by decide +kernel
theorem dX8_racesBetween_15 : decode cX8_racesBetween 15 = .ok (.if_icmp .ge 54, 3) := by decide +kernel
theorem dX8_racesBetween_18 : decode cX8_racesBetween 18 = .ok (.iconst 0, 1) := by decide +kernel
theorem dX8_racesBetween_19 : decode cX8_racesBetween 19 = .ok (.istore 5, 2) := by decide +kernel
theorem dX8_racesBetween_21 : decode cX8_racesBetween 21 = .ok (.iload 5, 2) := by decide +kernel
theorem dX8_racesBetween_23 : decode cX8_racesBetween 23 = .ok (.aload_n 0, 1) := by decide +kernel
theorem dX8_racesBetween_24 : decode cX8_racesBetween 24 = .ok (.getfield 12, 3) := by decide +kernel
theorem dX8_racesBetween_27 : decode cX8_racesBetween 27 = .ok (.iload_n 2, 1) := by decide +kernel
theorem dX8_racesBetween_28 : decode cX8_racesBetween 28 = .ok (.invokevirtual 61, 3) := by decide +kernel
theorem dX8_racesBetween_31 : decode cX8_racesBetween 31 = .ok (.if_icmp .ge 32, 3) := by decide +kernel
theorem dX8_racesBetween_34 : decode cX8_racesBetween 34 = .ok (.aload_n 0, 1) := by decide +kernel
theorem dX8_racesBetween_35 : decode cX8_racesBetween 35 = .ok (.getfield 36, 3) := by decide +kernel
theorem dX8_racesBetween_38 : decode cX8_racesBetween 38 = .ok (.aload_n 0, 1) := by decide +kernel
theorem dX8_racesBetween_39 : decode cX8_racesBetween 39 = .ok (.getfield 12, 3) := by decide +kernel
theorem dX8_racesBetween_42 : decode cX8_racesBetween 42 = .ok (.iload_n 1, 1) := by decide +kernel
theorem dX8_racesBetween_43 : decode cX8_racesBetween 43 = .ok (.iload 4, 2) := by decide +kernel
theorem dX8_racesBetween_45 : decode cX8_racesBetween 45 = .ok (.iload_n 2, 1) := by decide +kernel
theorem dX8_racesBetween_46 : decode cX8_racesBetween 46 = .ok (.iload 5, 2) := by decide +kernel
theorem dX8_racesBetween_48 : decode cX8_racesBetween 48 = .ok (.invokevirtual 158, 3) := by decide +kernel
theorem dX8_racesBetween_51 : decode cX8_racesBetween 51 = .ok (.ifCond .eq 6, 3) := by decide +kernel
theorem dX8_racesBetween_54 : decode cX8_racesBetween 54 = .ok (.iinc 3 1, 3) := by decide +kernel
theorem dX8_racesBetween_57 : decode cX8_racesBetween 57 = .ok (.iinc 5 1, 3) := by decide +kernel
theorem dX8_racesBetween_60 : decode cX8_racesBetween 60 = .ok (.goto (-39), 3) := by decide +kernel
theorem dX8_racesBetween_63 : decode cX8_racesBetween 63 = .ok (.iinc 4 1, 3) := by decide +kernel
theorem dX8_racesBetween_66 : decode cX8_racesBetween 66 = .ok (.goto (-61), 3) := by decide +kernel
theorem dX8_racesBetween_69 : decode cX8_racesBetween 69 = .ok (.iload_n 3, 1) := by decide +kernel
theorem dX8_racesBetween_70 : decode cX8_racesBetween 70 = .ok (.ireturn, 1) := by decide +kernel
set_option maxRecDepth 20000 in
theorem ggX8_does_X8_below : GoodIn wsX8_does wsX8_below := goodIn_r _ [6] (by decide +kernel) (by decide +kernel)
set_option maxRecDepth 20000 in
theorem gX8_does_X8_below : GoodIn wsX8_does (va_wsS RX8 47 yX8_below wsX8_below) := goodIn_app (goodIn_of _ (by decide +kernel)) ggX8_does_X8_below
set_option maxRecDepth 20000 in
theorem ggX8_does_X8_refused : GoodIn wsX8_does wsX8_refused := goodIn_r _ [10, 11, 12, 13, 140, 141, 142, 143, 144, 145, 146, 147, 148] (by decide +kernel) (by decide +kernel)
set_option maxRecDepth 20000 in
theorem gX8_does_X8_refused : GoodIn wsX8_does (wsV RX8 57 RX8 yX8_refused wsX8_refused) := goodIn_app (goodIn_of _ (by decide +kernel)) ggX8_does_X8_refused
set_option maxRecDepth 20000 in
theorem ggX8_does_X5_runMoment : GoodIn wsX8_does wsX5_runMoment := goodIn_r _ [18, 19, 149, 150, 151, 152, 153] (by decide +kernel) (by decide +kernel)
set_option maxRecDepth 20000 in
theorem gX8_does_X5_runMoment : GoodIn wsX8_does (wsV RX8 165 RX5 yX5_runMoment wsX5_runMoment) := goodIn_app (goodIn_of _ (by decide +kernel)) ggX8_does_X5_runMoment
set_option maxRecDepth 20000 in
theorem ggX8_does_X5_canDo : GoodIn wsX8_does wsX5_canDo := goodIn_r _ [23, 24, 25, 26, 17, 27, 28, 29, 30, 31, 32, 33, 34, 35, 36, 37, 38, 39, 40, 41, 42, 43, 44, 45, 46, 47, 48, 49, 50, 149, 150, 151, 152, 153] (by decide +kernel) (by decide +kernel)
set_option maxRecDepth 20000 in
theorem gX8_does_X5_canDo : GoodIn wsX8_does (wsV RX8 168 RX5 yX5_canDo wsX5_canDo) := goodIn_app (goodIn_of _ (by decide +kernel)) ggX8_does_X5_canDo
set_option maxRecDepth 20000 in
theorem ggX8_does_X3_keep : GoodIn wsX8_does wsX3_keep := goodIn_r _ [55, 56, 57, 58, 59, 60, 61, 17, 62, 40, 63, 64, 65, 66, 39, 67, 19, 68, 154, 155, 156, 149, 150, 151, 152, 153] (by decide +kernel) (by decide +kernel)
set_option maxRecDepth 20000 in
theorem gX8_does_X3_keep : GoodIn wsX8_does (wsV RX8 64 RX3 yX3_keep wsX3_keep) := goodIn_app (goodIn_of _ (by decide +kernel)) ggX8_does_X3_keep
set_option maxRecDepth 20000 in
theorem ggX8_does_X5_runOn : GoodIn wsX8_does wsX5_runOn := goodIn_r _ [72, 68, 19, 73, 74, 75, 17, 76, 24, 25, 26, 27, 28, 29, 30, 31, 32, 33, 34, 35, 36, 37, 38, 39, 40, 77, 78, 79, 80, 81, 82, 83, 84, 85, 86, 87, 88, 89, 90, 91, 92, 93, 43, 94, 95, 96, 97, 98, 99, 100, 101, 42, 44, 102, 46, 47, 103, 104, 105, 106, 107, 108, 109, 110, 111, 112, 113, 114, 115, 116, 117, 118, 119, 120, 121, 122, 45, 123, 124, 125, 126, 41, 127, 128, 129, 130, 131, 132, 133, 134, 135, 136, 137, 138, 149, 150, 151, 152, 153] (by decide +kernel) (by decide +kernel)
set_option maxRecDepth 20000 in
theorem gX8_does_X5_runOn : GoodIn wsX8_does (wsV RX8 172 RX5 yX5_runOn wsX5_runOn) := goodIn_app (goodIn_of _ (by decide +kernel)) ggX8_does_X5_runOn
set_option maxRecDepth 20000 in
theorem ggX8_does_X2_wrongOnes : GoodIn wsX8_does wsX2_wrongOnes := goodIn_r _ [135, 32, 33, 30, 34] (by decide +kernel) (by decide +kernel)
set_option maxRecDepth 20000 in
theorem gX8_does_X2_wrongOnes : GoodIn wsX8_does (va_wsS RX8 147 yX2_wrongOnes wsX2_wrongOnes) := goodIn_app (goodIn_of _ (by decide +kernel)) ggX8_does_X2_wrongOnes
theorem dX8_does_0 : decode cX8_does 0 = .ok (.iload_n 1, 1) := by decide +kernel
theorem dX8_does_1 : decode cX8_does 1 = .ok (.iconst 3, 1) := by decide +kernel
theorem dX8_does_2 : decode cX8_does 2 = .ok (.invokestatic 47, 3) := by decide +kernel
theorem dX8_does_5 : decode cX8_does 5 = .ok (.ifCond .ne 10, 3) := by decide +kernel
theorem dX8_does_8 : decode cX8_does 8 = .ok (.aload_n 0, 1) := by decide +kernel
theorem dX8_does_9 : decode cX8_does 9 = .ok (.bipush (-2), 2) := by decide +kernel
theorem dX8_does_11 : decode cX8_does 11 = .ok (.invokevirtual 57, 3) := by decide +kernel
theorem dX8_does_14 : decode cX8_does 14 = .ok (.ireturn, 1) := by decide +kernel
theorem dX8_does_15 : decode cX8_does 15 = .ok (.aload_n 0, 1) := by decide +kernel
theorem dX8_does_16 : decode cX8_does 16 = .ok (.getfield 12, 3) := by decide +kernel
theorem dX8_does_19 : decode cX8_does 19 = .ok (.aload_n 0, 1) := by decide +kernel
theorem dX8_does_20 : decode cX8_does 20 = .ok (.getfield 12, 3) := by decide +kernel
theorem dX8_does_23 : decode cX8_does 23 = .ok (.invokevirtual 165, 3) := by decide +kernel
theorem dX8_does_26 : decode cX8_does 26 = .ok (.iload_n 1, 1) := by decide +kernel
theorem dX8_does_27 : decode cX8_does 27 = .ok (.invokevirtual 168, 3) := by decide +kernel
theorem dX8_does_30 : decode cX8_does 30 = .ok (.ifCond .ne 10, 3) := by decide +kernel
theorem dX8_does_33 : decode cX8_does 33 = .ok (.aload_n 0, 1) := by decide +kernel
theorem dX8_does_34 : decode cX8_does 34 = .ok (.bipush (-3), 2) := by decide +kernel
theorem dX8_does_36 : decode cX8_does 36 = .ok (.invokevirtual 57, 3) := by decide +kernel
theorem dX8_does_39 : decode cX8_does 39 = .ok (.ireturn, 1) := by decide +kernel
theorem dX8_does_40 : decode cX8_does 40 = .ok (.aload_n 0, 1) := by decide +kernel
theorem dX8_does_41 : decode cX8_does 41 = .ok (.getfield 22, 3) := by decide +kernel
theorem dX8_does_44 : decode cX8_does 44 = .ok (.aload_n 0, 1) := by decide +kernel
theorem dX8_does_45 : decode cX8_does 45 = .ok (.getfield 12, 3) := by decide +kernel
theorem dX8_does_48 : decode cX8_does 48 = .ok (.invokevirtual 64, 3) := by decide +kernel
theorem dX8_does_51 : decode cX8_does 51 = .ok (.aload_n 0, 1) := by decide +kernel
theorem dX8_does_52 : decode cX8_does 52 = .ok (.getfield 12, 3) := by decide +kernel
theorem dX8_does_55 : decode cX8_does 55 = .ok (.iload_n 1, 1) := by decide +kernel
theorem dX8_does_56 : decode cX8_does 56 = .ok (.invokevirtual 172, 3) := by decide +kernel
theorem dX8_does_59 : decode cX8_does 59 = .ok (.aload_n 0, 1) := by decide +kernel
theorem dX8_does_60 : decode cX8_does 60 = .ok (.getfield 12, 3) := by decide +kernel
theorem dX8_does_63 : decode cX8_does 63 = .ok (.invokevirtual 165, 3) := by decide +kernel
theorem dX8_does_66 : decode cX8_does 66 = .ok (.invokestatic 147, 3) := by decide +kernel
theorem dX8_does_69 : decode cX8_does 69 = .ok (.ireturn, 1) := by decide +kernel
set_option maxRecDepth 20000 in
theorem ggX8_again_X3_keep : GoodIn wsX8_again wsX3_keep := goodIn_r _ [7, 8, 9, 10, 11, 12, 13, 14, 15, 16, 17, 18, 19, 20, 21, 22, 23, 24, 46, 47, 48, 49, 50, 51, 52, 53] (by decide +kernel) (by decide +kernel)
set_option maxRecDepth 20000 in
theorem gX8_again_X3_keep : GoodIn wsX8_again (wsV RX8 64 RX3 yX3_keep wsX3_keep) := goodIn_app (goodIn_of _ (by decide +kernel)) ggX8_again_X3_keep
set_option maxRecDepth 20000 in
theorem ggX8_again_X5_runRow : GoodIn wsX8_again wsX5_runRow := goodIn_r _ [28, 24, 49, 50, 51, 52, 53] (by decide +kernel) (by decide +kernel)
set_option maxRecDepth 20000 in
theorem gX8_again_X5_runRow : GoodIn wsX8_again (wsV RX8 175 RX5 yX5_runRow wsX5_runRow) := goodIn_app (goodIn_of _ (by decide +kernel)) ggX8_again_X5_runRow
set_option maxRecDepth 20000 in
theorem ggX8_again_X4_length : GoodIn wsX8_again wsX4_length := goodIn_r _ [32] (by decide +kernel) (by decide +kernel)
set_option maxRecDepth 20000 in
theorem gX8_again_X4_length : GoodIn wsX8_again (va_wsS RX8 131 yX4_length wsX4_length) := goodIn_app (goodIn_of _ (by decide +kernel)) ggX8_again_X4_length
set_option maxRecDepth 20000 in
theorem ggX8_again_X5_beginRun : GoodIn wsX8_again wsX5_beginRun := goodIn_r _ [36, 22, 23, 24, 49, 50, 51, 52, 53] (by decide +kernel) (by decide +kernel)
set_option maxRecDepth 20000 in
theorem gX8_again_X5_beginRun : GoodIn wsX8_again (wsV RX8 178 RX5 yX5_beginRun wsX5_beginRun) := goodIn_app (goodIn_of _ (by decide +kernel)) ggX8_again_X5_beginRun
theorem dX8_again_0 : decode cX8_again 0 = .ok (.aload_n 0, 1) := by decide +kernel
theorem dX8_again_1 : decode cX8_again 1 = .ok (.getfield 22, 3) := by decide +kernel
theorem dX8_again_4 : decode cX8_again 4 = .ok (.aload_n 0, 1) := by decide +kernel
theorem dX8_again_5 : decode cX8_again 5 = .ok (.getfield 12, 3) := by decide +kernel
theorem dX8_again_8 : decode cX8_again 8 = .ok (.invokevirtual 64, 3) := by decide +kernel
theorem dX8_again_11 : decode cX8_again 11 = .ok (.aload_n 0, 1) := by decide +kernel
theorem dX8_again_12 : decode cX8_again 12 = .ok (.getfield 12, 3) := by decide +kernel
theorem dX8_again_15 : decode cX8_again 15 = .ok (.invokevirtual 175, 3) := by decide +kernel
theorem dX8_again_18 : decode cX8_again 18 = .ok (.invokestatic 131, 3) := by decide +kernel
theorem dX8_again_21 : decode cX8_again 21 = .ok (.istore_n 1, 1) := by decide +kernel
theorem dX8_again_22 : decode cX8_again 22 = .ok (.aload_n 0, 1) := by decide +kernel
theorem dX8_again_23 : decode cX8_again 23 = .ok (.getfield 12, 3) := by decide +kernel
theorem dX8_again_26 : decode cX8_again 26 = .ok (.invokevirtual 178, 3) := by decide +kernel
theorem dX8_again_29 : decode cX8_again 29 = .ok (.iload_n 1, 1) := by decide +kernel
theorem dX8_again_30 : decode cX8_again 30 = .ok (.ireturn, 1) := by decide +kernel
set_option maxRecDepth 20000 in
theorem ggX8_run_X5_runMoment : GoodIn wsX8_run wsX5_runMoment := goodIn_r _ [6, 7, 79, 80, 81, 82, 83] (by decide +kernel) (by decide +kernel)
set_option maxRecDepth 20000 in
theorem gX8_run_X5_runMoment : GoodIn wsX8_run (wsV RX8 165 RX5 yX5_runMoment wsX5_runMoment) := goodIn_app (goodIn_of _ (by decide +kernel)) ggX8_run_X5_runMoment
set_option maxRecDepth 20000 in
theorem ggX8_run_X5_ableBits : GoodIn wsX8_run wsX5_ableBits := goodIn_r _ [11, 12, 13, 14, 5, 15, 16, 17, 18, 19, 20, 21, 22, 23, 24, 25, 26, 27, 28, 29, 30, 31, 32, 33, 34, 35, 36, 37, 38, 39, 40, 41, 42, 79, 80, 81, 82, 83] (by decide +kernel) (by decide +kernel)
set_option maxRecDepth 20000 in
theorem gX8_run_X5_ableBits : GoodIn wsX8_run (wsV RX8 181 RX5 yX5_ableBits wsX5_ableBits) := goodIn_app (goodIn_of _ (by decide +kernel)) ggX8_run_X5_ableBits
set_option maxRecDepth 20000 in
theorem ggX8_run_X5_runRow : GoodIn wsX8_run wsX5_runRow := goodIn_r _ [46, 47, 79, 80, 81, 82, 83] (by decide +kernel) (by decide +kernel)
set_option maxRecDepth 20000 in
theorem gX8_run_X5_runRow : GoodIn wsX8_run (wsV RX8 175 RX5 yX5_runRow wsX5_runRow) := goodIn_app (goodIn_of _ (by decide +kernel)) ggX8_run_X5_runRow
set_option maxRecDepth 20000 in
theorem ggX8_run_X4_length : GoodIn wsX8_run wsX4_length := goodIn_r _ [51] (by decide +kernel) (by decide +kernel)
set_option maxRecDepth 20000 in
theorem gX8_run_X4_length : GoodIn wsX8_run (va_wsS RX8 131 yX4_length wsX4_length) := goodIn_app (goodIn_of _ (by decide +kernel)) ggX8_run_X4_length
set_option maxRecDepth 20000 in
theorem ggX8_run_X2_wrongOnes : GoodIn wsX8_run wsX2_wrongOnes := goodIn_r _ [54, 24, 25, 22, 26] (by decide +kernel) (by decide +kernel)
set_option maxRecDepth 20000 in
theorem gX8_run_X2_wrongOnes : GoodIn wsX8_run (va_wsS RX8 147 yX2_wrongOnes wsX2_wrongOnes) := goodIn_app (goodIn_of _ (by decide +kernel)) ggX8_run_X2_wrongOnes
set_option maxRecDepth 20000 in
theorem ggX8_run_X2_ending : GoodIn wsX8_run wsX2_ending := goodIn_r _ [57, 58, 59, 22, 60, 24, 25, 26] (by decide +kernel) (by decide +kernel)
set_option maxRecDepth 20000 in
theorem gX8_run_X2_ending : GoodIn wsX8_run (va_wsS RX8 143 yX2_ending wsX2_ending) := goodIn_app (goodIn_of _ (by decide +kernel)) ggX8_run_X2_ending
set_option maxRecDepth 20000 in
theorem ggX8_run_X2_holderOf : GoodIn wsX8_run wsX2_holderOf := goodIn_r _ [42, 24, 25, 22, 26] (by decide +kernel) (by decide +kernel)
set_option maxRecDepth 20000 in
theorem gX8_run_X2_holderOf : GoodIn wsX8_run (va_wsS RX8 184 yX2_holderOf wsX2_holderOf) := goodIn_app (goodIn_of _ (by decide +kernel)) ggX8_run_X2_holderOf
set_option maxRecDepth 20000 in
theorem ggX8_run_X8_refused : GoodIn wsX8_run wsX8_refused := goodIn_r _ [66, 67, 68, 69, 70, 71, 72, 73, 74, 75, 76, 77, 78] (by decide +kernel) (by decide +kernel)
set_option maxRecDepth 20000 in
theorem gX8_run_X8_refused : GoodIn wsX8_run (wsV RX8 57 RX8 yX8_refused wsX8_refused) := goodIn_app (goodIn_of _ (by decide +kernel)) ggX8_run_X8_refused
theorem dX8_run_0 : decode cX8_run 0 = .ok (.aload_n 0, 1) := by decide +kernel
theorem dX8_run_1 : decode cX8_run 1 = .ok (.getfield 12, 3) := by decide +kernel
theorem dX8_run_4 : decode cX8_run 4 = .ok (.invokevirtual 165, 3) := by decide +kernel
theorem dX8_run_7 : decode cX8_run 7 = .ok (.lstore_n 2, 1) := by decide +kernel
theorem dX8_run_8 : decode cX8_run 8 = .ok (.iload_n 1, 1) := by decide +kernel
theorem dX8_run_9 : decode cX8_run 9 = .ok (.tableswitch 81 0 5 #[39, 48, 59, 64, 69, 75], 39) := by decide +kernel
theorem dX8_run_48 : decode cX8_run 48 = .ok (.aload_n 0, 1) := by decide +kernel
theorem dX8_run_49 : decode cX8_run 49 = .ok (.getfield 12, 3) := by decide +kernel
theorem dX8_run_52 : decode cX8_run 52 = .ok (.lload_n 2, 1) := by decide +kernel
theorem dX8_run_53 : decode cX8_run 53 = .ok (.invokevirtual 181, 3) := by decide +kernel
theorem dX8_run_56 : decode cX8_run 56 = .ok (.ireturn, 1) := by decide +kernel
theorem dX8_run_57 : decode cX8_run 57 = .ok (.aload_n 0, 1) := by decide +kernel
theorem dX8_run_58 : decode cX8_run 58 = .ok (.getfield 12, 3) := by decide +kernel
theorem dX8_run_61 : decode cX8_run 61 = .ok (.invokevirtual 175, 3) := by decide +kernel
theorem dX8_run_64 : decode cX8_run 64 = .ok (.invokestatic 131, 3) := by decide +kernel
theorem dX8_run_67 : decode cX8_run 67 = .ok (.ireturn, 1) := by decide +kernel
theorem dX8_run_68 : decode cX8_run 68 = .ok (.lload_n 2, 1) := by decide +kernel
theorem dX8_run_69 : decode cX8_run 69 = .ok (.invokestatic 147, 3) := by decide +kernel
theorem dX8_run_72 : decode cX8_run 72 = .ok (.ireturn, 1) := by decide +kernel
theorem dX8_run_73 : decode cX8_run 73 = .ok (.lload_n 2, 1) := by decide +kernel
theorem dX8_run_74 : decode cX8_run 74 = .ok (.invokestatic 143, 3) := by decide +kernel
theorem dX8_run_77 : decode cX8_run 77 = .ok (.ireturn, 1) := by decide +kernel
theorem dX8_run_78 : decode cX8_run 78 = .ok (.lload_n 2, 1) := by decide +kernel
theorem dX8_run_79 : decode cX8_run 79 = .ok (.iconst 0, 1) := by decide +kernel
theorem dX8_run_80 : decode cX8_run 80 = .ok (.invokestatic 184, 3) := by decide +kernel
theorem dX8_run_83 : decode cX8_run 83 = .ok (.ireturn, 1) := by decide +kernel
theorem dX8_run_84 : decode cX8_run 84 = .ok (.lload_n 2, 1) := by decide +kernel
theorem dX8_run_85 : decode cX8_run 85 = .ok (.iconst 1, 1) := by decide +kernel
theorem dX8_run_86 : decode cX8_run 86 = .ok (.invokestatic 184, 3) := by decide +kernel
theorem dX8_run_89 : decode cX8_run 89 = .ok (.ireturn, 1) := by decide +kernel
theorem dX8_run_90 : decode cX8_run 90 = .ok (.aload_n 0, 1) := by decide +kernel
theorem dX8_run_91 : decode cX8_run 91 = .ok (.bipush (-2), 2) := by decide +kernel
theorem dX8_run_93 : decode cX8_run 93 = .ok (.invokevirtual 57, 3) := by decide +kernel
theorem dX8_run_96 : decode cX8_run 96 = .ok (.ireturn, 1) := by decide +kernel
set_option maxRecDepth 20000 in
theorem ggX8_which_X5_runMoment : GoodIn wsX8_which wsX5_runMoment := goodIn_r _ [7, 8, 178, 179, 180, 181, 182] (by decide +kernel) (by decide +kernel)
set_option maxRecDepth 20000 in
theorem gX8_which_X5_runMoment : GoodIn wsX8_which (wsV RX8 165 RX5 yX5_runMoment wsX5_runMoment) := goodIn_app (goodIn_of _ (by decide +kernel)) ggX8_which_X5_runMoment
set_option maxRecDepth 20000 in
theorem ggX8_which_X5_ableBits : GoodIn wsX8_which wsX5_ableBits := goodIn_r _ [12, 13, 14, 15, 6, 16, 17, 18, 19, 20, 21, 22, 23, 24, 25, 26, 27, 28, 29, 30, 31, 32, 33, 34, 35, 36, 37, 38, 39, 40, 41, 42, 43, 178, 179, 180, 181, 182] (by decide +kernel) (by decide +kernel)
set_option maxRecDepth 20000 in
theorem gX8_which_X5_ableBits : GoodIn wsX8_which (wsV RX8 181 RX5 yX5_ableBits wsX5_ableBits) := goodIn_app (goodIn_of _ (by decide +kernel)) ggX8_which_X5_ableBits
set_option maxRecDepth 20000 in
theorem ggX8_which_X0_goThrough : GoodIn wsX8_which wsX0_goThrough := goodIn_r _ [48, 49, 50, 51, 52, 53, 54, 55, 56, 57, 58, 59, 6, 60, 61, 32, 28, 29, 30, 31, 33, 62, 63, 64, 65, 66, 67, 68, 69, 8, 70, 71, 72, 73, 74, 75, 76, 77, 78, 79, 80, 47, 81, 82, 10, 11, 12, 13, 14, 15, 16, 17, 18, 19, 20, 21, 22, 23, 24, 25, 26, 27, 34, 35, 36, 37, 38, 39, 40, 41, 42, 43, 83, 84, 85, 86, 87, 88, 89, 90, 91, 92, 93, 94, 95, 96, 97, 98, 99, 100, 101, 102, 103, 104, 105, 106, 107, 108, 109, 110, 111, 112, 113, 114, 115, 116, 117, 118, 119, 120, 121, 122, 123, 124, 125, 126, 127, 128, 129, 130, 131, 132, 133, 134, 135, 136, 137, 138, 139, 140, 141, 142, 143, 144, 145, 146, 147, 148, 149, 150, 151, 152, 153, 154, 155, 156, 157, 158, 159, 160, 183, 184, 185, 186, 187, 188, 189, 190, 191, 178, 179, 180, 181, 182] (by decide +kernel) (by decide +kernel)
set_option maxRecDepth 20000 in
theorem gX8_which_X0_goThrough : GoodIn wsX8_which (wsV RX8 118 RX0 yX0_goThrough wsX0_goThrough) := goodIn_app (goodIn_of _ (by decide +kernel)) ggX8_which_X0_goThrough
set_option maxRecDepth 20000 in
theorem ggX8_which_X5_runRow : GoodIn wsX8_which wsX5_runRow := goodIn_r _ [164, 70, 178, 179, 180, 181, 182] (by decide +kernel) (by decide +kernel)
set_option maxRecDepth 20000 in
theorem gX8_which_X5_runRow : GoodIn wsX8_which (wsV RX8 175 RX5 yX5_runRow wsX5_runRow) := goodIn_app (goodIn_of _ (by decide +kernel)) ggX8_which_X5_runRow
set_option maxRecDepth 20000 in
theorem ggX8_which_X0_find : GoodIn wsX8_which wsX0_find := goodIn_r _ [168, 52, 92, 183, 184, 185, 186, 187, 188, 189, 190, 191] (by decide +kernel) (by decide +kernel)
set_option maxRecDepth 20000 in
theorem gX8_which_X0_find : GoodIn wsX8_which (wsV RX8 187 RX0 yX0_find wsX0_find) := goodIn_app (goodIn_of _ (by decide +kernel)) ggX8_which_X0_find
theorem dX8_which_0 : decode cX8_which 0 = .ok (.aload_n 0, 1) := by decide +kernel
theorem dX8_which_1 : decode cX8_which 1 = .ok (.getfield 12, 3) := by decide +kernel
theorem dX8_which_4 : decode cX8_which 4 = .ok (.aload_n 0, 1) := by decide +kernel
theorem dX8_which_5 : decode cX8_which 5 = .ok (.getfield 12, 3) := by decide +kernel
theorem dX8_which_8 : decode cX8_which 8 = .ok (.invokevirtual 165, 3) := by decide +kernel
theorem dX8_which_11 : decode cX8_which 11 = .ok (.invokevirtual 181, 3) := by decide +kernel
theorem dX8_which_14 : decode cX8_which 14 = .ok (.ifCond .eq 5, 3) := by decide +kernel
theorem dX8_which_17 : decode cX8_which 17 = .ok (.iconst (-1), 1) := by decide +kernel
theorem dX8_which_18 : decode cX8_which 18 = .ok (.ireturn, 1) := by decide +kernel
theorem dX8_which_19 : decode cX8_which 19 = .ok (.aload_n 0, 1) := by decide +kernel
theorem dX8_which_20 : decode cX8_which 20 = .ok (.getfield 29, 3) := by decide +kernel
theorem dX8_which_23 : decode cX8_which 23 = .ok (.aload_n 0, 1) := by decide +kernel
theorem dX8_which_24 : decode cX8_which 24 = .ok (.getfield 12, 3) := by decide +kernel
theorem dX8_which_27 : decode cX8_which 27 = .ok (.invokevirtual 118, 3) := by decide +kernel
theorem dX8_which_30 : decode cX8_which 30 = .ok (.aload_n 0, 1) := by decide +kernel
theorem dX8_which_31 : decode cX8_which 31 = .ok (.getfield 29, 3) := by decide +kernel
theorem dX8_which_34 : decode cX8_which 34 = .ok (.aload_n 0, 1) := by decide +kernel
theorem dX8_which_35 : decode cX8_which 35 = .ok (.getfield 12, 3) := by decide +kernel
theorem dX8_which_38 : decode cX8_which 38 = .ok (.invokevirtual 175, 3) := by decide +kernel
theorem dX8_which_41 : decode cX8_which 41 = .ok (.invokevirtual 187, 3) := by decide +kernel
theorem dX8_which_44 : decode cX8_which 44 = .ok (.ireturn, 1) := by decide +kernel
set_option maxRecDepth 20000 in
theorem ggX8_type_X8_below : GoodIn wsX8_type wsX8_below := goodIn_r _ [5] (by decide +kernel) (by decide +kernel)
set_option maxRecDepth 20000 in
theorem gX8_type_X8_below : GoodIn wsX8_type (va_wsS RX8 47 yX8_below wsX8_below) := goodIn_app (goodIn_of _ (by decide +kernel)) ggX8_type_X8_below
set_option maxRecDepth 20000 in
theorem ggX8_type_X8_refused : GoodIn wsX8_type wsX8_refused := goodIn_r _ [9, 10, 11, 12, 24, 25, 26, 27, 28, 29, 30, 31, 32] (by decide +kernel) (by decide +kernel)
set_option maxRecDepth 20000 in
theorem gX8_type_X8_refused : GoodIn wsX8_type (wsV RX8 57 RX8 yX8_refused wsX8_refused) := goodIn_app (goodIn_of _ (by decide +kernel)) ggX8_type_X8_refused
set_option maxRecDepth 20000 in
theorem ggX8_type_X7_length : GoodIn wsX8_type wsX7_length := goodIn_r _ [17, 18, 33, 34, 35, 36, 37, 38, 39] (by decide +kernel) (by decide +kernel)
set_option maxRecDepth 20000 in
theorem gX8_type_X7_length : GoodIn wsX8_type (wsV RX8 190 RX7 yX7_length wsX7_length) := goodIn_app (goodIn_of _ (by decide +kernel)) ggX8_type_X7_length
set_option maxRecDepth 20000 in
theorem ggX8_type_X7_append : GoodIn wsX8_type wsX7_append := goodIn_r _ [22, 18, 23, 33, 34, 35, 36, 37, 38, 39] (by decide +kernel) (by decide +kernel)
set_option maxRecDepth 20000 in
theorem gX8_type_X7_append : GoodIn wsX8_type (wsV RX8 192 RX7 yX7_append wsX7_append) := goodIn_app (goodIn_of _ (by decide +kernel)) ggX8_type_X7_append
theorem dX8_type_0 : decode cX8_type 0 = .ok (.iload_n 1, 1) := by decide +kernel
theorem dX8_type_1 : decode cX8_type 1 = .ok (.sipush 128, 3) := by decide +kernel
theorem dX8_type_4 : decode cX8_type 4 = .ok (.invokestatic 47, 3) := by decide +kernel
theorem dX8_type_7 : decode cX8_type 7 = .ok (.ifCond .ne 10, 3) := by decide +kernel
theorem dX8_type_10 : decode cX8_type 10 = .ok (.aload_n 0, 1) := by decide +kernel
theorem dX8_type_11 : decode cX8_type 11 = .ok (.bipush (-2), 2) := by decide +kernel
theorem dX8_type_13 : decode cX8_type 13 = .ok (.invokevirtual 57, 3) := by decide +kernel
theorem dX8_type_16 : decode cX8_type 16 = .ok (.ireturn, 1) := by decide +kernel
theorem dX8_type_17 : decode cX8_type 17 = .ok (.aload_n 0, 1) := by decide +kernel
theorem dX8_type_18 : decode cX8_type 18 = .ok (.getfield 43, 3) := by decide +kernel
theorem dX8_type_21 : decode cX8_type 21 = .ok (.invokevirtual 190, 3) := by decide +kernel
theorem dX8_type_24 : decode cX8_type 24 = .ok (.bipush 120, 2) := by decide +kernel
theorem dX8_type_26 : decode cX8_type 26 = .ok (.if_icmp .lt 10, 3) := by decide +kernel
theorem dX8_type_29 : decode cX8_type 29 = .ok (.aload_n 0, 1) := by decide +kernel
theorem dX8_type_30 : decode cX8_type 30 = .ok (.bipush (-4), 2) := by decide +kernel
theorem dX8_type_32 : decode cX8_type 32 = .ok (.invokevirtual 57, 3) := by decide +kernel
theorem dX8_type_35 : decode cX8_type 35 = .ok (.ireturn, 1) := by decide +kernel
theorem dX8_type_36 : decode cX8_type 36 = .ok (.aload_n 0, 1) := by decide +kernel
theorem dX8_type_37 : decode cX8_type 37 = .ok (.getfield 43, 3) := by decide +kernel
theorem dX8_type_40 : decode cX8_type 40 = .ok (.iload_n 1, 1) := by decide +kernel
theorem dX8_type_41 : decode cX8_type 41 = .ok (.invokevirtual 192, 3) := by decide +kernel
theorem dX8_type_44 : decode cX8_type 44 = .ok (.aload_n 0, 1) := by decide +kernel
theorem dX8_type_45 : decode cX8_type 45 = .ok (.getfield 43, 3) := by decide +kernel
theorem dX8_type_48 : decode cX8_type 48 = .ok (.invokevirtual 190, 3) := by decide +kernel
theorem dX8_type_51 : decode cX8_type 51 = .ok (.ireturn, 1) := by decide +kernel
set_option maxRecDepth 20000 in
theorem ggX8_clear_X7_length : GoodIn wsX8_clear wsX7_length := goodIn_r _ [6, 7, 21, 22, 23, 24, 25, 26, 27] (by decide +kernel) (by decide +kernel)
set_option maxRecDepth 20000 in
theorem gX8_clear_X7_length : GoodIn wsX8_clear (wsV RX8 190 RX7 yX7_length wsX7_length) := goodIn_app (goodIn_of _ (by decide +kernel)) ggX8_clear_X7_length
set_option maxRecDepth 20000 in
theorem ggX8_clear_X7_empty : GoodIn wsX8_clear wsX7_empty := goodIn_r _ [11, 7, 21, 22, 23, 24, 25, 26, 27] (by decide +kernel) (by decide +kernel)
set_option maxRecDepth 20000 in
theorem gX8_clear_X7_empty : GoodIn wsX8_clear (wsV RX8 195 RX7 yX7_empty wsX7_empty) := goodIn_app (goodIn_of _ (by decide +kernel)) ggX8_clear_X7_empty
theorem dX8_clear_0 : decode cX8_clear 0 = .ok (.aload_n 0, 1) := by decide +kernel
theorem dX8_clear_1 : decode cX8_clear 1 = .ok (.getfield 43, 3) := by decide +kernel
theorem dX8_clear_4 : decode cX8_clear 4 = .ok (.invokevirtual 190, 3) := by decide +kernel
theorem dX8_clear_7 : decode cX8_clear 7 = .ok (.istore_n 1, 1) := by decide +kernel
theorem dX8_clear_8 : decode cX8_clear 8 = .ok (.aload_n 0, 1) := by decide +kernel
theorem dX8_clear_9 : decode cX8_clear 9 = .ok (.getfield 43, 3) := by decide +kernel
theorem dX8_clear_12 : decode cX8_clear 12 = .ok (.invokevirtual 195, 3) := by decide +kernel
theorem dX8_clear_15 : decode cX8_clear 15 = .ok (.iload_n 1, 1) := by decide +kernel
theorem dX8_clear_16 : decode cX8_clear 16 = .ok (.ireturn, 1) := by decide +kernel
set_option maxRecDepth 20000 in
theorem ggX8_reads_X5_takeFrom : GoodIn wsX8_reads wsX5_takeFrom := goodIn_r _ [9, 10, 11, 12, 13, 14, 15, 16, 17, 18, 103, 104, 105, 106, 107] (by decide +kernel) (by decide +kernel)
set_option maxRecDepth 20000 in
theorem gX8_reads_X5_takeFrom : GoodIn wsX8_reads (wsV RX8 198 RX5 yX5_takeFrom wsX5_takeFrom) := goodIn_app (goodIn_of _ (by decide +kernel)) ggX8_reads_X5_takeFrom
set_option maxRecDepth 20000 in
theorem ggX8_reads_X7_readInto : GoodIn wsX8_reads wsX7_readInto := goodIn_r _ [23, 24, 25, 26, 27, 28, 29, 8, 30, 15, 31, 32, 33, 22, 34, 35, 36, 37, 38, 39, 40, 41, 42, 43, 44, 45, 46, 47, 48, 49, 50, 51, 52, 53, 54, 55, 56, 57, 58, 59, 60, 61, 62, 63, 64, 65, 66, 67, 68, 69, 70, 71, 72, 73, 74, 75, 76, 77, 78, 79, 10, 80, 81, 82, 83, 16, 17, 18, 108, 109, 110, 111, 112, 113, 114, 103, 104, 105, 106, 107] (by decide +kernel) (by decide +kernel)
set_option maxRecDepth 20000 in
theorem gX8_reads_X7_readInto : GoodIn wsX8_reads (wsV RX8 201 RX7 yX7_readInto wsX7_readInto) := goodIn_app (goodIn_of _ (by decide +kernel)) ggX8_reads_X7_readInto
set_option maxRecDepth 20000 in
theorem ggX8_reads_X3_keep : GoodIn wsX8_reads wsX3_keep := goodIn_r _ [88, 89, 90, 91, 92, 6, 7, 8, 9, 10, 11, 12, 13, 14, 15, 16, 17, 18, 115, 116, 117, 103, 104, 105, 106, 107] (by decide +kernel) (by decide +kernel)
set_option maxRecDepth 20000 in
theorem gX8_reads_X3_keep : GoodIn wsX8_reads (wsV RX8 64 RX3 yX3_keep wsX3_keep) := goodIn_app (goodIn_of _ (by decide +kernel)) ggX8_reads_X3_keep
set_option maxRecDepth 20000 in
theorem ggX8_reads_X5_stepsInAll : GoodIn wsX8_reads wsX5_stepsInAll := goodIn_r _ [30, 15, 103, 104, 105, 106, 107] (by decide +kernel) (by decide +kernel)
set_option maxRecDepth 20000 in
theorem gX8_reads_X5_stepsInAll : GoodIn wsX8_reads (wsV RX8 150 RX5 yX5_stepsInAll wsX5_stepsInAll) := goodIn_app (goodIn_of _ (by decide +kernel)) ggX8_reads_X5_stepsInAll
theorem dX8_reads_0 : decode cX8_reads 0 = .ok (.aload_n 0, 1) := by decide +kernel
theorem dX8_reads_1 : decode cX8_reads 1 = .ok (.getfield 16, 3) := by decide +kernel
theorem dX8_reads_4 : decode cX8_reads 4 = .ok (.aload_n 0, 1) := by decide +kernel
theorem dX8_reads_5 : decode cX8_reads 5 = .ok (.getfield 12, 3) := by decide +kernel
theorem dX8_reads_8 : decode cX8_reads 8 = .ok (.invokevirtual 198, 3) := by decide +kernel
theorem dX8_reads_11 : decode cX8_reads 11 = .ok (.aload_n 0, 1) := by decide +kernel
theorem dX8_reads_12 : decode cX8_reads 12 = .ok (.getfield 43, 3) := by decide +kernel
theorem dX8_reads_15 : decode cX8_reads 15 = .ok (.aload_n 0, 1) := by decide +kernel
theorem dX8_reads_16 : decode cX8_reads 16 = .ok (.getfield 16, 3) := by decide +kernel
theorem dX8_reads_19 : decode cX8_reads 19 = .ok (.invokevirtual 201, 3) := by decide +kernel
theorem dX8_reads_22 : decode cX8_reads 22 = .ok (.istore_n 1, 1) := by decide +kernel
theorem dX8_reads_23 : decode cX8_reads 23 = .ok (.iload_n 1, 1) := by decide +kernel
theorem dX8_reads_24 : decode cX8_reads 24 = .ok (.iconst (-1), 1) := by decide +kernel
theorem dX8_reads_25 : decode cX8_reads 25 = .ok (.if_icmp .eq 8, 3) := by decide +kernel
theorem dX8_reads_28 : decode cX8_reads 28 = .ok (.bipush (-10), 2) := by decide +kernel
theorem dX8_reads_30 : decode cX8_reads 30 = .ok (.iload_n 1, 1) := by decide +kernel
theorem dX8_reads_31 : decode cX8_reads 31 = .ok (.isub, 1) := by decide +kernel
theorem dX8_reads_32 : decode cX8_reads 32 = .ok (.ireturn, 1) := by decide +kernel
theorem dX8_reads_33 : decode cX8_reads 33 = .ok (.aload_n 0, 1) := by decide +kernel
theorem dX8_reads_34 : decode cX8_reads 34 = .ok (.getfield 22, 3) := by decide +kernel
theorem dX8_reads_37 : decode cX8_reads 37 = .ok (.aload_n 0, 1) := by decide +kernel
theorem dX8_reads_38 : decode cX8_reads 38 = .ok (.getfield 12, 3) := by decide +kernel
theorem dX8_reads_41 : decode cX8_reads 41 = .ok (.invokevirtual 64, 3) := by decide +kernel
theorem dX8_reads_44 : decode cX8_reads 44 = .ok (.aload_n 0, 1) := by decide +kernel
theorem dX8_reads_45 : decode cX8_reads 45 = .ok (.getfield 16, 3) := by decide +kernel
theorem dX8_reads_48 : decode cX8_reads 48 = .ok (.invokevirtual 150, 3) := by decide +kernel
theorem dX8_reads_51 : decode cX8_reads 51 = .ok (.aload_n 0, 1) := by decide +kernel
theorem dX8_reads_52 : decode cX8_reads 52 = .ok (.getfield 12, 3) := by decide +kernel
theorem dX8_reads_55 : decode cX8_reads 55 = .ok (.invokevirtual 150, 3) := by decide +kernel
theorem dX8_reads_58 : decode cX8_reads 58 = .ok (.isub, 1) := by decide +kernel
theorem dX8_reads_59 : decode cX8_reads 59 = .ok (.istore_n 2, 1) := by decide +kernel
theorem dX8_reads_60 : decode cX8_reads 60 = .ok (.aload_n 0, 1) := by decide +kernel
theorem dX8_reads_61 : decode cX8_reads 61 = .ok (.getfield 12, 3) := by decide +kernel
theorem dX8_reads_64 : decode cX8_reads 64 = .ok (.aload_n 0, 1) := by decide +kernel
theorem dX8_reads_65 : decode cX8_reads 65 = .ok (.getfield 16, 3) := by decide +kernel
theorem dX8_reads_68 : decode cX8_reads 68 = .ok (.invokevirtual 198, 3) := by decide +kernel
theorem dX8_reads_71 : decode cX8_reads 71 = .ok (.iload_n 2, 1) := by decide +kernel
theorem dX8_reads_72 : decode cX8_reads 72 = .ok (.ireturn, 1) := by decide +kernel
set_option maxRecDepth 20000 in
theorem ggX8_back_X3_size : GoodIn wsX8_back wsX3_size := goodIn_r _ [7, 8, 46, 47, 48] (by decide +kernel) (by decide +kernel)
set_option maxRecDepth 20000 in
theorem gX8_back_X3_size : GoodIn wsX8_back (wsV RX8 205 RX3 yX3_size wsX3_size) := goodIn_app (goodIn_of _ (by decide +kernel)) ggX8_back_X3_size
set_option maxRecDepth 20000 in
theorem ggX8_back_X8_refused : GoodIn wsX8_back wsX8_refused := goodIn_r _ [13, 14, 15, 16, 37, 38, 39, 40, 41, 42, 43, 44, 45] (by decide +kernel) (by decide +kernel)
set_option maxRecDepth 20000 in
theorem gX8_back_X8_refused : GoodIn wsX8_back (wsV RX8 57 RX8 yX8_refused wsX8_refused) := goodIn_app (goodIn_of _ (by decide +kernel)) ggX8_back_X8_refused
set_option maxRecDepth 20000 in
theorem ggX8_back_X3_bringBack : GoodIn wsX8_back wsX3_bringBack := goodIn_r _ [20, 8, 21, 22, 23, 24, 25, 26, 27, 28, 29, 30, 31, 32, 33, 34, 35, 36, 46, 47, 48, 49, 50, 51, 52, 53] (by decide +kernel) (by decide +kernel)
set_option maxRecDepth 20000 in
theorem gX8_back_X3_bringBack : GoodIn wsX8_back (wsV RX8 208 RX3 yX3_bringBack wsX3_bringBack) := goodIn_app (goodIn_of _ (by decide +kernel)) ggX8_back_X3_bringBack
theorem dX8_back_0 : decode cX8_back 0 = .ok (.aload_n 0, 1) := by decide +kernel
theorem dX8_back_1 : decode cX8_back 1 = .ok (.getfield 22, 3) := by decide +kernel
theorem dX8_back_4 : decode cX8_back 4 = .ok (.invokevirtual 205, 3) := by decide +kernel
theorem dX8_back_7 : decode cX8_back 7 = .ok (.ifCond .ne 10, 3) := by decide +kernel
theorem dX8_back_10 : decode cX8_back 10 = .ok (.aload_n 0, 1) := by decide +kernel
theorem dX8_back_11 : decode cX8_back 11 = .ok (.bipush (-3), 2) := by decide +kernel
theorem dX8_back_13 : decode cX8_back 13 = .ok (.invokevirtual 57, 3) := by decide +kernel
theorem dX8_back_16 : decode cX8_back 16 = .ok (.ireturn, 1) := by decide +kernel
theorem dX8_back_17 : decode cX8_back 17 = .ok (.aload_n 0, 1) := by decide +kernel
theorem dX8_back_18 : decode cX8_back 18 = .ok (.getfield 22, 3) := by decide +kernel
theorem dX8_back_21 : decode cX8_back 21 = .ok (.aload_n 0, 1) := by decide +kernel
theorem dX8_back_22 : decode cX8_back 22 = .ok (.getfield 12, 3) := by decide +kernel
theorem dX8_back_25 : decode cX8_back 25 = .ok (.invokevirtual 208, 3) := by decide +kernel
theorem dX8_back_28 : decode cX8_back 28 = .ok (.aload_n 0, 1) := by decide +kernel
theorem dX8_back_29 : decode cX8_back 29 = .ok (.getfield 22, 3) := by decide +kernel
theorem dX8_back_32 : decode cX8_back 32 = .ok (.invokevirtual 205, 3) := by decide +kernel
theorem dX8_back_35 : decode cX8_back 35 = .ok (.ireturn, 1) := by decide +kernel
set_option maxRecDepth 20000 in
theorem ggX8_told_X7_length : GoodIn wsX8_told wsX7_length := goodIn_r _ [11, 12, 56, 57, 58, 59, 60, 61, 62] (by decide +kernel) (by decide +kernel)
set_option maxRecDepth 20000 in
theorem gX8_told_X7_length : GoodIn wsX8_told (wsV RX8 190 RX7 yX7_length wsX7_length) := goodIn_app (goodIn_of _ (by decide +kernel)) ggX8_told_X7_length
set_option maxRecDepth 20000 in
theorem ggX8_told_X5_stepsOf : GoodIn wsX8_told wsX5_stepsOf := goodIn_r _ [17, 18, 19, 20, 21, 63, 64, 65, 66, 67] (by decide +kernel) (by decide +kernel)
set_option maxRecDepth 20000 in
theorem gX8_told_X5_stepsOf : GoodIn wsX8_told (wsV RX8 61 RX5 yX5_stepsOf wsX5_stepsOf) := goodIn_app (goodIn_of _ (by decide +kernel)) ggX8_told_X5_stepsOf
set_option maxRecDepth 20000 in
theorem ggX8_told_X5_beginning : GoodIn wsX8_told wsX5_beginning := goodIn_r _ [25, 26, 63, 64, 65, 66, 67] (by decide +kernel) (by decide +kernel)
set_option maxRecDepth 20000 in
theorem gX8_told_X5_beginning : GoodIn wsX8_told (wsV RX8 80 RX5 yX5_beginning wsX5_beginning) := goodIn_app (goodIn_of _ (by decide +kernel)) ggX8_told_X5_beginning
set_option maxRecDepth 20000 in
theorem ggX8_told_X2_ending : GoodIn wsX8_told wsX2_ending := goodIn_r _ [30, 31, 32, 29, 33, 34, 35, 36] (by decide +kernel) (by decide +kernel)
set_option maxRecDepth 20000 in
theorem gX8_told_X2_ending : GoodIn wsX8_told (va_wsS RX8 143 yX2_ending wsX2_ending) := goodIn_app (goodIn_of _ (by decide +kernel)) ggX8_told_X2_ending
set_option maxRecDepth 20000 in
theorem ggX8_told_X3_size : GoodIn wsX8_told wsX3_size := goodIn_r _ [41, 42, 68, 69, 70] (by decide +kernel) (by decide +kernel)
set_option maxRecDepth 20000 in
theorem gX8_told_X3_size : GoodIn wsX8_told (wsV RX8 205 RX3 yX3_size wsX3_size) := goodIn_app (goodIn_of _ (by decide +kernel)) ggX8_told_X3_size
set_option maxRecDepth 20000 in
theorem ggX8_told_X8_refused : GoodIn wsX8_told wsX8_refused := goodIn_r _ [46, 1, 2, 3, 47, 48, 49, 50, 51, 52, 53, 54, 55] (by decide +kernel) (by decide +kernel)
set_option maxRecDepth 20000 in
theorem gX8_told_X8_refused : GoodIn wsX8_told (wsV RX8 57 RX8 yX8_refused wsX8_refused) := goodIn_app (goodIn_of _ (by decide +kernel)) ggX8_told_X8_refused
theorem dX8_told_0 : decode cX8_told 0 = .ok (.iload_n 1, 1) := by decide +kernel
theorem dX8_told_1 : decode cX8_told 1 = .ok (.tableswitch 104 0 8 #[51, 56, 61, 66, 74, 74, 74, 85, 96], 51) := by decide +kernel
theorem dX8_told_52 : decode cX8_told 52 = .ok (.aload_n 0, 1) := by decide +kernel
theorem dX8_told_53 : decode cX8_told 53 = .ok (.getfield 211, 3) := by decide +kernel
theorem dX8_told_56 : decode cX8_told 56 = .ok (.ireturn, 1) := by decide +kernel
theorem dX8_told_57 : decode cX8_told 57 = .ok (.aload_n 0, 1) := by decide +kernel
theorem dX8_told_58 : decode cX8_told 58 = .ok (.getfield 215, 3) := by decide +kernel
theorem dX8_told_61 : decode cX8_told 61 = .ok (.ireturn, 1) := by decide +kernel
theorem dX8_told_62 : decode cX8_told 62 = .ok (.aload_n 0, 1) := by decide +kernel
theorem dX8_told_63 : decode cX8_told 63 = .ok (.getfield 218, 3) := by decide +kernel
theorem dX8_told_66 : decode cX8_told 66 = .ok (.ireturn, 1) := by decide +kernel
theorem dX8_told_67 : decode cX8_told 67 = .ok (.aload_n 0, 1) := by decide +kernel
theorem dX8_told_68 : decode cX8_told 68 = .ok (.getfield 43, 3) := by decide +kernel
theorem dX8_told_71 : decode cX8_told 71 = .ok (.invokevirtual 190, 3) := by decide +kernel
theorem dX8_told_74 : decode cX8_told 74 = .ok (.ireturn, 1) := by decide +kernel
theorem dX8_told_75 : decode cX8_told 75 = .ok (.aload_n 0, 1) := by decide +kernel
theorem dX8_told_76 : decode cX8_told 76 = .ok (.getfield 12, 3) := by decide +kernel
theorem dX8_told_79 : decode cX8_told 79 = .ok (.iload_n 1, 1) := by decide +kernel
theorem dX8_told_80 : decode cX8_told 80 = .ok (.iconst 4, 1) := by decide +kernel
theorem dX8_told_81 : decode cX8_told 81 = .ok (.isub, 1) := by decide +kernel
theorem dX8_told_82 : decode cX8_told 82 = .ok (.invokevirtual 61, 3) := by decide +kernel
theorem dX8_told_85 : decode cX8_told 85 = .ok (.ireturn, 1) := by decide +kernel
theorem dX8_told_86 : decode cX8_told 86 = .ok (.aload_n 0, 1) := by decide +kernel
theorem dX8_told_87 : decode cX8_told 87 = .ok (.getfield 12, 3) := by decide +kernel
theorem dX8_told_90 : decode cX8_told 90 = .ok (.invokevirtual 80, 3) := by decide +kernel
theorem dX8_told_93 : decode cX8_told 93 = .ok (.invokestatic 143, 3) := by decide +kernel
theorem dX8_told_96 : decode cX8_told 96 = .ok (.ireturn, 1) := by decide +kernel
theorem dX8_told_97 : decode cX8_told 97 = .ok (.aload_n 0, 1) := by decide +kernel
theorem dX8_told_98 : decode cX8_told 98 = .ok (.getfield 22, 3) := by decide +kernel
theorem dX8_told_101 : decode cX8_told 101 = .ok (.invokevirtual 205, 3) := by decide +kernel
theorem dX8_told_104 : decode cX8_told 104 = .ok (.ireturn, 1) := by decide +kernel
theorem dX8_told_105 : decode cX8_told 105 = .ok (.aload_n 0, 1) := by decide +kernel
theorem dX8_told_106 : decode cX8_told 106 = .ok (.bipush (-2), 2) := by decide +kernel
theorem dX8_told_108 : decode cX8_told 108 = .ok (.invokevirtual 57, 3) := by decide +kernel
theorem dX8_told_111 : decode cX8_told 111 = .ok (.ireturn, 1) := by decide +kernel
set_option maxRecDepth 20000 in
theorem ggX8_digest_X0_goThrough : GoodIn wsX8_digest wsX0_goThrough := goodIn_r _ [9, 10, 11, 12, 13, 14, 15, 16, 17, 18, 19, 20, 21, 22, 23, 24, 25, 26, 27, 28, 29, 30, 31, 32, 33, 34, 35, 36, 37, 38, 39, 40, 41, 42, 43, 44, 45, 46, 47, 48, 49, 8, 50, 51, 52, 53, 54, 55, 56, 57, 58, 59, 60, 61, 62, 63, 64, 65, 66, 67, 68, 69, 70, 71, 72, 73, 74, 75, 76, 77, 78, 79, 80, 81, 82, 83, 84, 85, 86, 87, 88, 89, 90, 91, 92, 93, 94, 95, 96, 97, 98, 99, 100, 101, 102, 103, 104, 105, 106, 107, 108, 109, 110, 111, 112, 113, 114, 115, 116, 117, 118, 119, 120, 121, 122, 123, 124, 125, 126, 127, 128, 129, 130, 131, 132, 133, 134, 135, 136, 137, 138, 139, 140, 141, 142, 143, 144, 145, 146, 147, 148, 149, 150, 151, 152, 153, 154, 155, 156, 157, 277, 278, 279, 280, 281, 282, 283, 284, 285, 286, 287, 288, 289, 290] (by decide +kernel) (by decide +kernel)
set_option maxRecDepth 20000 in
theorem gX8_digest_X0_goThrough : GoodIn wsX8_digest (wsV RX8 118 RX0 yX0_goThrough wsX0_goThrough) := goodIn_app (goodIn_of _ (by decide +kernel)) ggX8_digest_X0_goThrough
set_option maxRecDepth 20000 in
theorem ggX8_digest_X8_told : GoodIn wsX8_digest wsX8_told := goodIn_r _ [161, 162, 163, 164, 165, 2, 166, 167, 168, 169, 170, 171, 172, 173, 174, 175, 21, 176, 24, 99, 100, 101, 177, 45, 46, 47, 23, 178, 94, 65, 95, 96, 97, 98, 67, 68, 69, 179, 180, 181, 182, 183, 184, 185, 186, 187, 188, 268, 269, 270, 271, 272, 273, 274, 275, 276, 291, 292, 293, 294, 295, 296, 297, 286, 287, 288, 289, 290, 298, 299, 300] (by decide +kernel) (by decide +kernel)
set_option maxRecDepth 20000 in
theorem gX8_digest_X8_told : GoodIn wsX8_digest (wsV RX8 225 RX8 yX8_told wsX8_told) := goodIn_app (goodIn_of _ (by decide +kernel)) ggX8_digest_X8_told
set_option maxRecDepth 20000 in
theorem ggX8_digest_X8_digestSteps : GoodIn wsX8_digest wsX8_digestSteps := goodIn_r _ [192, 2, 4, 173, 174, 175, 21, 176, 24, 99, 100, 101, 193, 194, 195, 196, 197, 198, 199, 200, 201, 185, 186, 187, 188, 162, 163, 164, 202, 26, 27, 28, 29, 203, 71, 72, 73, 204, 75, 76, 205, 126, 127, 206, 123, 124, 120, 121, 125, 207, 118, 119, 268, 269, 270, 271, 272, 273, 274, 275, 276, 286, 287, 288, 289, 290] (by decide +kernel) (by decide +kernel)
set_option maxRecDepth 20000 in
theorem gX8_digest_X8_digestSteps : GoodIn wsX8_digest (wsV RX8 228 RX8 yX8_digestSteps wsX8_digestSteps) := goodIn_app (goodIn_of _ (by decide +kernel)) ggX8_digest_X8_digestSteps
set_option maxRecDepth 20000 in
theorem ggX8_digest_X0_howMany : GoodIn wsX8_digest wsX0_howMany := goodIn_r _ [211, 13, 14, 15, 16, 277, 278, 279, 280, 281, 282, 283, 284, 285] (by decide +kernel) (by decide +kernel)
set_option maxRecDepth 20000 in
theorem gX8_digest_X0_howMany : GoodIn wsX8_digest (wsV RX8 121 RX0 yX0_howMany wsX0_howMany) := goodIn_app (goodIn_of _ (by decide +kernel)) ggX8_digest_X0_howMany
set_option maxRecDepth 20000 in
theorem ggX8_digest_X8_races : GoodIn wsX8_digest wsX8_races := goodIn_r _ [215, 216, 2, 217, 218, 219, 220, 221, 222, 223, 45, 46, 21, 47, 23, 224, 225, 226, 227, 228, 229, 230, 64, 65, 66, 67, 68, 69, 99, 100, 101, 231, 56, 57, 58, 59, 60, 61, 62, 63, 25, 26, 27, 28, 24, 29, 70, 71, 72, 73, 74, 75, 76, 77, 78, 79, 232, 135, 136, 137, 138, 139, 140, 141, 142, 143, 144, 145, 146, 126, 127, 147, 97, 98, 148, 149, 150, 151, 152, 153, 154, 91, 92, 155, 156, 157, 233, 234, 235, 236, 173, 174, 175, 176, 237, 238, 239, 240, 241, 242, 115, 116, 117, 118, 119, 120, 121, 122, 123, 124, 125, 243, 268, 269, 270, 271, 272, 273, 274, 275, 276, 301, 286, 287, 288, 289, 290] (by decide +kernel) (by decide +kernel)
set_option maxRecDepth 20000 in
theorem gX8_digest_X8_races : GoodIn wsX8_digest (wsV RX8 232 RX8 yX8_races wsX8_races) := goodIn_app (goodIn_of _ (by decide +kernel)) ggX8_digest_X8_races
set_option maxRecDepth 20000 in
theorem ggX8_digest_X8_run : GoodIn wsX8_digest wsX8_run := goodIn_r _ [247, 2, 248, 249, 250, 21, 251, 38, 252, 52, 53, 54, 55, 56, 57, 58, 59, 60, 61, 62, 63, 64, 65, 66, 67, 68, 69, 25, 26, 27, 28, 24, 29, 70, 71, 72, 73, 74, 75, 76, 77, 78, 79, 253, 254, 255, 256, 39, 257, 81, 82, 83, 258, 91, 92, 178, 94, 95, 96, 97, 98, 259, 185, 186, 187, 100, 188, 162, 163, 164, 268, 269, 270, 271, 272, 273, 274, 275, 276, 286, 287, 288, 289, 290] (by decide +kernel) (by decide +kernel)
set_option maxRecDepth 20000 in
theorem gX8_digest_X8_run : GoodIn wsX8_digest (wsV RX8 235 RX8 yX8_run wsX8_run) := goodIn_app (goodIn_of _ (by decide +kernel)) ggX8_digest_X8_run
set_option maxRecDepth 20000 in
theorem ggX8_digest_X8_digestEnds : GoodIn wsX8_digest wsX8_digestEnds := goodIn_r _ [263, 1, 4, 264, 265, 266, 8, 267, 17, 99, 100, 101, 268, 269, 270, 271, 272, 273, 274, 275, 276, 277, 278, 279, 280, 281, 282, 283, 284, 285] (by decide +kernel) (by decide +kernel)
set_option maxRecDepth 20000 in
theorem gX8_digest_X8_digestEnds : GoodIn wsX8_digest (wsV RX8 238 RX8 yX8_digestEnds wsX8_digestEnds) := goodIn_app (goodIn_of _ (by decide +kernel)) ggX8_digest_X8_digestEnds
theorem dX8_digest_0 : decode cX8_digest 0 = .ok (.aload_n 0, 1) := by decide +kernel
theorem dX8_digest_1 : decode cX8_digest 1 = .ok (.getfield 29, 3) := by decide +kernel
theorem dX8_digest_4 : decode cX8_digest 4 = .ok (.aload_n 0, 1) := by decide +kernel
theorem dX8_digest_5 : decode cX8_digest 5 = .ok (.getfield 12, 3) := by decide +kernel
theorem dX8_digest_8 : decode cX8_digest 8 = .ok (.invokevirtual 118, 3) := by decide +kernel
theorem dX8_digest_11 : decode cX8_digest 11 = .ok (.ldc2_w 221, 3) := by decide +kernel
theorem dX8_digest_14 : decode cX8_digest 14 = .ok (.lstore_n 1, 1) := by decide +kernel
theorem dX8_digest_15 : decode cX8_digest 15 = .ok (.iconst 0, 1) := by decide +kernel
theorem dX8_digest_16 : decode cX8_digest 16 = .ok (.istore_n 3, 1) := by decide +kernel
theorem dX8_digest_17 : decode cX8_digest 17 = .ok (.iload_n 3, 1) := by decide +kernel
theorem dX8_digest_18 : decode cX8_digest 18 = .ok (.bipush 8, 2) := by decide +kernel
theorem dX8_digest_20 : decode cX8_digest 20 = .ok (.if_icmp .gt 22, 3) := by decide +kernel
theorem dX8_digest_23 : decode cX8_digest 23 = .ok (.ldc2_w 223, 3) := by decide +kernel
theorem dX8_digest_26 : decode cX8_digest 26 = .ok (.lload_n 1, 1) := by decide +kernel
theorem dX8_digest_27 : decode cX8_digest 27 = .ok (.lmul, 1) := by decide +kernel
theorem dX8_digest_28 : decode cX8_digest 28 = .ok (.aload_n 0, 1) := by decide +kernel
theorem dX8_digest_29 : decode cX8_digest 29 = .ok (.iload_n 3, 1) := by decide +kernel
theorem dX8_digest_30 : decode cX8_digest 30 = .ok (.invokevirtual 225, 3) := by decide +kernel
theorem dX8_digest_33 : decode cX8_digest 33 = .ok (.i2l, 1) := by decide +kernel
theorem dX8_digest_34 : decode cX8_digest 34 = .ok (.ladd, 1) := by decide +kernel
theorem dX8_digest_35 : decode cX8_digest 35 = .ok (.lstore_n 1, 1) := by decide +kernel
theorem dX8_digest_36 : decode cX8_digest 36 = .ok (.iinc 3 1, 3) := by decide +kernel
theorem dX8_digest_39 : decode cX8_digest 39 = .ok (.goto (-22), 3) := by decide +kernel
theorem dX8_digest_42 : decode cX8_digest 42 = .ok (.aload_n 0, 1) := by decide +kernel
theorem dX8_digest_43 : decode cX8_digest 43 = .ok (.lload_n 1, 1) := by decide +kernel
theorem dX8_digest_44 : decode cX8_digest 44 = .ok (.invokevirtual 228, 3) := by decide +kernel
theorem dX8_digest_47 : decode cX8_digest 47 = .ok (.lstore_n 1, 1) := by decide +kernel
theorem dX8_digest_48 : decode cX8_digest 48 = .ok (.iconst 0, 1) := by decide +kernel
theorem dX8_digest_49 : decode cX8_digest 49 = .ok (.istore_n 3, 1) := by decide +kernel
theorem dX8_digest_50 : decode cX8_digest 50 = .ok (.iload_n 3, 1) := by decide +kernel
theorem dX8_digest_51 : decode cX8_digest 51 = .ok (.iconst 3, 1) := by decide +kernel
theorem dX8_digest_52 : decode cX8_digest 52 = .ok (.if_icmp .gt 25, 3) := by decide +kernel
theorem dX8_digest_55 : decode cX8_digest 55 = .ok (.ldc2_w 223, 3) := by decide +kernel
theorem dX8_digest_58 : decode cX8_digest 58 = .ok (.lload_n 1, 1) := by decide +kernel
theorem dX8_digest_59 : decode cX8_digest 59 = .ok (.lmul, 1) := by decide +kernel
theorem dX8_digest_60 : decode cX8_digest 60 = .ok (.aload_n 0, 1) := by decide +kernel
theorem dX8_digest_61 : decode cX8_digest 61 = .ok (.getfield 29, 3) := by decide +kernel
theorem dX8_digest_64 : decode cX8_digest 64 = .ok (.iload_n 3, 1) := by decide +kernel
theorem dX8_digest_65 : decode cX8_digest 65 = .ok (.invokevirtual 121, 3) := by decide +kernel
theorem dX8_digest_68 : decode cX8_digest 68 = .ok (.i2l, 1) := by decide +kernel
theorem dX8_digest_69 : decode cX8_digest 69 = .ok (.ladd, 1) := by decide +kernel
theorem dX8_digest_70 : decode cX8_digest 70 = .ok (.lstore_n 1, 1) := by decide +kernel
theorem dX8_digest_71 : decode cX8_digest 71 = .ok (.iinc 3 1, 3) := by decide +kernel
theorem dX8_digest_74 : decode cX8_digest 74 = .ok (.goto (-24), 3) := by decide +kernel
theorem dX8_digest_77 : decode cX8_digest 77 = .ok (.ldc2_w 223, 3) := by decide +kernel
theorem dX8_digest_80 : decode cX8_digest 80 = .ok (.lload_n 1, 1) := by decide +kernel
theorem dX8_digest_81 : decode cX8_digest 81 = .ok (.lmul, 1) := by decide +kernel
theorem dX8_digest_82 : decode cX8_digest 82 = .ok (.aload_n 0, 1) := by decide +kernel
theorem dX8_digest_83 : decode cX8_digest 83 = .ok (.invokevirtual 232, 3) := by decide +kernel
theorem dX8_digest_86 : decode cX8_digest 86 = .ok (.i2l, 1) := by decide +kernel
theorem dX8_digest_87 : decode cX8_digest 87 = .ok (.ladd, 1) := by decide +kernel
theorem dX8_digest_88 : decode cX8_digest 88 = .ok (.lstore_n 1, 1) := by decide +kernel
theorem dX8_digest_89 : decode cX8_digest 89 = .ok (.iconst 0, 1) := by decide +kernel
theorem dX8_digest_90 : decode cX8_digest 90 = .ok (.istore_n 3, 1) := by decide +kernel
theorem dX8_digest_91 : decode cX8_digest 91 = .ok (.iload_n 3, 1) := by decide +kernel
theorem dX8_digest_92 : decode cX8_digest 92 = .ok (.iconst 5, 1) := by decide +kernel
theorem dX8_digest_93 : decode cX8_digest 93 = .ok (.if_icmp .gt 22, 3) := by decide +kernel
theorem dX8_digest_96 : decode cX8_digest 96 = .ok (.ldc2_w 223, 3) := by decide +kernel
theorem dX8_digest_99 : decode cX8_digest 99 = .ok (.lload_n 1, 1) := by decide +kernel
theorem dX8_digest_100 : decode cX8_digest 100 = .ok (.lmul, 1) := by decide +kernel
theorem dX8_digest_101 : decode cX8_digest 101 = .ok (.aload_n 0, 1) := by decide +kernel
theorem dX8_digest_102 : decode cX8_digest 102 = .ok (.iload_n 3, 1) := by decide +kernel
theorem dX8_digest_103 : decode cX8_digest 103 = .ok (.invokevirtual 235, 3) := by decide +kernel
theorem dX8_digest_106 : decode cX8_digest 106 = .ok (.i2l, 1) := by decide +kernel
theorem dX8_digest_107 : decode cX8_digest 107 = .ok (.ladd, 1) := by decide +kernel
theorem dX8_digest_108 : decode cX8_digest 108 = .ok (.lstore_n 1, 1) := by decide +kernel
theorem dX8_digest_109 : decode cX8_digest 109 = .ok (.iinc 3 1, 3) := by decide +kernel
theorem dX8_digest_112 : decode cX8_digest 112 = .ok (.goto (-21), 3) := by decide +kernel
theorem dX8_digest_115 : decode cX8_digest 115 = .ok (.aload_n 0, 1) := by decide +kernel
theorem dX8_digest_116 : decode cX8_digest 116 = .ok (.lload_n 1, 1) := by decide +kernel
theorem dX8_digest_117 : decode cX8_digest 117 = .ok (.invokevirtual 238, 3) := by decide +kernel
theorem dX8_digest_120 : decode cX8_digest 120 = .ok (.lreturn, 1) := by decide +kernel
set_option maxRecDepth 20000 in
theorem ggX8_digestSteps_X5_stepsOf : GoodIn wsX8_digestSteps wsX5_stepsOf := goodIn_r _ [7, 8, 9, 10, 11, 61, 62, 63, 64, 65] (by decide +kernel) (by decide +kernel)
set_option maxRecDepth 20000 in
theorem gX8_digestSteps_X5_stepsOf : GoodIn wsX8_digestSteps (wsV RX8 61 RX5 yX5_stepsOf wsX5_stepsOf) := goodIn_app (goodIn_of _ (by decide +kernel)) ggX8_digestSteps_X5_stepsOf
set_option maxRecDepth 20000 in
theorem ggX8_digestSteps_X8_of : GoodIn wsX8_digestSteps wsX8_of := goodIn_r _ [15, 1, 16, 17, 18, 6, 19, 20, 4, 5, 7, 8, 9, 10, 11, 21, 22, 23, 24, 25, 26, 27, 28, 29, 30, 31, 32, 33, 34, 35, 36, 37, 38, 39, 40, 41, 42, 43, 44, 45, 46, 47, 48, 49, 50, 51, 52, 53, 54, 55, 56, 57, 58, 59, 60, 61, 62, 63, 64, 65] (by decide +kernel) (by decide +kernel)
set_option maxRecDepth 20000 in
theorem gX8_digestSteps_X8_of : GoodIn wsX8_digestSteps (wsV RX8 241 RX8 yX8_of wsX8_of) := goodIn_app (goodIn_of _ (by decide +kernel)) ggX8_digestSteps_X8_of
theorem dX8_digestSteps_0 : decode cX8_digestSteps 0 = .ok (.lload_n 1, 1) := by decide +kernel
theorem dX8_digestSteps_1 : decode cX8_digestSteps 1 = .ok (.lstore_n 3, 1) := by decide +kernel
theorem dX8_digestSteps_2 : decode cX8_digestSteps 2 = .ok (.iconst 0, 1) := by decide +kernel
theorem dX8_digestSteps_3 : decode cX8_digestSteps 3 = .ok (.istore 5, 2) := by decide +kernel
theorem dX8_digestSteps_5 : decode cX8_digestSteps 5 = .ok (.iload 5, 2) := by decide +kernel
theorem dX8_digestSteps_7 : decode cX8_digestSteps 7 = .ok (.iconst 3, 1) := by decide +kernel
theorem dX8_digestSteps_8 : decode cX8_digestSteps 8 = .ok (.if_icmp .ge 65, 3) := by decide +kernel
theorem dX8_digestSteps_11 : decode cX8_digestSteps 11 = .ok (.iconst 0, 1) := by decide +kernel
theorem dX8_digestSteps_12 : decode cX8_digestSteps 12 = .ok (.istore 6, 2) := by decide +kernel
theorem dX8_digestSteps_14 : decode cX8_digestSteps 14 = .ok (.iload 6, 2) := by decide +kernel
theorem dX8_digestSteps_16 : decode cX8_digestSteps 16 = .ok (.aload_n 0, 1) := by decide +kernel
theorem dX8_digestSteps_17 : decode cX8_digestSteps 17 = .ok (.getfield 12, 3) := by decide +kernel
theorem dX8_digestSteps_20 : decode cX8_digestSteps 20 = .ok (.iload 5, 2) := by decide +kernel
theorem dX8_digestSteps_22 : decode cX8_digestSteps 22 = .ok (.invokevirtual 61, 3) := by decide +kernel
theorem dX8_digestSteps_25 : decode cX8_digestSteps 25 = .ok (.if_icmp .ge 42, 3) := by decide +kernel
theorem dX8_digestSteps_28 : decode cX8_digestSteps 28 = .ok (.iconst 0, 1) := by decide +kernel
theorem dX8_digestSteps_29 : decode cX8_digestSteps 29 = .ok (.istore 7, 2) := by decide +kernel
theorem dX8_digestSteps_31 : decode cX8_digestSteps 31 = .ok (.iload 7, 2) := by decide +kernel
theorem dX8_digestSteps_33 : decode cX8_digestSteps 33 = .ok (.iconst 4, 1) := by decide +kernel
theorem dX8_digestSteps_34 : decode cX8_digestSteps 34 = .ok (.if_icmp .gt 27, 3) := by decide +kernel
theorem dX8_digestSteps_37 : decode cX8_digestSteps 37 = .ok (.ldc2_w 223, 3) := by decide +kernel
theorem dX8_digestSteps_40 : decode cX8_digestSteps 40 = .ok (.lload_n 3, 1) := by decide +kernel
