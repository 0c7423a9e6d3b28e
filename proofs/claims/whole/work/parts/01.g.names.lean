set_option maxRecDepth 20000 in
theorem gX9_goesRun_X9_starts : GoodIn wsX9_goesRun (wsV RX9 154 RX9 yX9_starts wsX9_starts) := goodIn_app (goodIn_of _ (by decide +kernel)) ggX9_goesRun_X9_starts
set_option maxRecDepth 20000 in
theorem ggX9_goesRun_X9_valuesBegin : GoodIn wsX9_goesRun wsX9_valuesBegin := goodIn_r _ [13, 14, 15, 1, 24, 25, 26, 27, 28, 29, 30, 31, 32, 33, 34, 35, 36, 37, 38, 39, 40, 41, 42, 43, 44, 45] (by decide +kernel) (by decide +kernel)
set_option maxRecDepth 20000 in
theorem gX9_goesRun_X9_valuesBegin : GoodIn wsX9_goesRun (wsV RX9 143 RX9 yX9_valuesBegin wsX9_valuesBegin) := goodIn_app (goodIn_of _ (by decide +kernel)) ggX9_goesRun_X9_valuesBegin
set_option maxRecDepth 20000 in
theorem ggX9_goesRun_X9_doesStep : GoodIn wsX9_goesRun wsX9_doesStep := goodIn_r _ [19, 15, 14, 20, 21, 22, 6, 23, 1, 24, 25, 26, 27, 28, 29, 30, 31, 32, 33, 34, 35, 36, 37, 38, 39, 40, 41, 42, 43, 44, 45] (by decide +kernel) (by decide +kernel)
set_option maxRecDepth 20000 in
theorem gX9_goesRun_X9_doesStep : GoodIn wsX9_goesRun (wsV RX9 146 RX9 yX9_doesStep wsX9_doesStep) := goodIn_app (goodIn_of _ (by decide +kernel)) ggX9_goesRun_X9_doesStep
theorem dX9_goesRun_0 : decode cX9_goesRun 0 = .ok (.aload_n 0, 1) := by decide +kernel
theorem dX9_goesRun_1 : decode cX9_goesRun 1 = .ok (.invokevirtual 154, 3) := by decide +kernel
theorem dX9_goesRun_4 : decode cX9_goesRun 4 = .ok (.aload_n 0, 1) := by decide +kernel
theorem dX9_goesRun_5 : decode cX9_goesRun 5 = .ok (.invokevirtual 143, 3) := by decide +kernel
theorem dX9_goesRun_8 : decode cX9_goesRun 8 = .ok (.iconst 0, 1) := by decide +kernel
theorem dX9_goesRun_9 : decode cX9_goesRun 9 = .ok (.istore_n 1, 1) := by decide +kernel
theorem dX9_goesRun_10 : decode cX9_goesRun 10 = .ok (.iload_n 1, 1) := by decide +kernel
theorem dX9_goesRun_11 : decode cX9_goesRun 11 = .ok (.aload_n 0, 1) := by decide +kernel
theorem dX9_goesRun_12 : decode cX9_goesRun 12 = .ok (.getfield 7, 3) := by decide +kernel
theorem dX9_goesRun_15 : decode cX9_goesRun 15 = .ok (.bipush 43, 2) := by decide +kernel
theorem dX9_goesRun_17 : decode cX9_goesRun 17 = .ok (.iaload, 1) := by decide +kernel
theorem dX9_goesRun_18 : decode cX9_goesRun 18 = .ok (.if_icmp .ge 40, 3) := by decide +kernel
theorem dX9_goesRun_21 : decode cX9_goesRun 21 = .ok (.aload_n 0, 1) := by decide +kernel
theorem dX9_goesRun_22 : decode cX9_goesRun 22 = .ok (.getfield 7, 3) := by decide +kernel
theorem dX9_goesRun_25 : decode cX9_goesRun 25 = .ok (.bipush 44, 2) := by decide +kernel
theorem dX9_goesRun_27 : decode cX9_goesRun 27 = .ok (.iload_n 1, 1) := by decide +kernel
theorem dX9_goesRun_28 : decode cX9_goesRun 28 = .ok (.iadd, 1) := by decide +kernel
theorem dX9_goesRun_29 : decode cX9_goesRun 29 = .ok (.iaload, 1) := by decide +kernel
theorem dX9_goesRun_30 : decode cX9_goesRun 30 = .ok (.istore_n 2, 1) := by decide +kernel
theorem dX9_goesRun_31 : decode cX9_goesRun 31 = .ok (.aload_n 0, 1) := by decide +kernel
theorem dX9_goesRun_32 : decode cX9_goesRun 32 = .ok (.iload_n 2, 1) := by decide +kernel
theorem dX9_goesRun_33 : decode cX9_goesRun 33 = .ok (.aload_n 0, 1) := by decide +kernel
theorem dX9_goesRun_34 : decode cX9_goesRun 34 = .ok (.getfield 19, 3) := by decide +kernel
theorem dX9_goesRun_37 : decode cX9_goesRun 37 = .ok (.iload_n 2, 1) := by decide +kernel
theorem dX9_goesRun_38 : decode cX9_goesRun 38 = .ok (.iaload, 1) := by decide +kernel
theorem dX9_goesRun_39 : decode cX9_goesRun 39 = .ok (.invokevirtual 146, 3) := by decide +kernel
theorem dX9_goesRun_42 : decode cX9_goesRun 42 = .ok (.aload_n 0, 1) := by decide +kernel
theorem dX9_goesRun_43 : decode cX9_goesRun 43 = .ok (.getfield 19, 3) := by decide +kernel
theorem dX9_goesRun_46 : decode cX9_goesRun 46 = .ok (.iload_n 2, 1) := by decide +kernel
theorem dX9_goesRun_47 : decode cX9_goesRun 47 = .ok (.dup2, 1) := by decide +kernel
theorem dX9_goesRun_48 : decode cX9_goesRun 48 = .ok (.iaload, 1) := by decide +kernel
theorem dX9_goesRun_49 : decode cX9_goesRun 49 = .ok (.iconst 1, 1) := by decide +kernel
theorem dX9_goesRun_50 : decode cX9_goesRun 50 = .ok (.iadd, 1) := by decide +kernel
theorem dX9_goesRun_51 : decode cX9_goesRun 51 = .ok (.iastore, 1) := by decide +kernel
theorem dX9_goesRun_52 : decode cX9_goesRun 52 = .ok (.iinc 1 1, 3) := by decide +kernel
theorem dX9_goesRun_55 : decode cX9_goesRun 55 = .ok (.goto (-45), 3) := by decide +kernel
theorem dX9_goesRun_58 : decode cX9_goesRun 58 = .ok (.return_, 1) := by decide +kernel
set_option maxRecDepth 20000 in
theorem ggX9_does_X9_isThread : GoodIn wsX9_does wsX9_isThread := goodIn_r _ [6, 7, 8, 9, 5, 10] (by decide +kernel) (by decide +kernel)
set_option maxRecDepth 20000 in
theorem gX9_does_X9_isThread : GoodIn wsX9_does (va_wsS RX9 79 yX9_isThread wsX9_isThread) := goodIn_app (goodIn_of _ (by decide +kernel)) ggX9_does_X9_isThread
set_option maxRecDepth 20000 in
theorem ggX9_does_X9_refuses : GoodIn wsX9_does wsX9_refuses := goodIn_r _ [14, 15, 58, 59, 60, 61, 62, 63, 64, 65, 66, 67, 68, 69, 70, 71, 72, 73, 74, 75, 76, 77, 78, 79] (by decide +kernel) (by decide +kernel)
set_option maxRecDepth 20000 in
theorem gX9_does_X9_refuses : GoodIn wsX9_does (wsV RX9 87 RX9 yX9_refuses wsX9_refuses) := goodIn_app (goodIn_of _ (by decide +kernel)) ggX9_does_X9_refuses
set_option maxRecDepth 20000 in
theorem ggX9_does_X9_goesRun : GoodIn wsX9_does wsX9_goesRun := goodIn_r _ [19, 1, 20, 21, 22, 23, 5, 24, 25, 26, 27, 28, 29, 30, 2, 31, 32, 33, 34, 35, 36, 37, 38, 39, 58, 59, 60, 61, 62, 63, 64, 65, 66, 67, 68, 69, 70, 71, 72, 73, 74, 75, 76, 77, 78, 79] (by decide +kernel) (by decide +kernel)
set_option maxRecDepth 20000 in
theorem gX9_does_X9_goesRun : GoodIn wsX9_does (wsV RX9 179 RX9 yX9_goesRun wsX9_goesRun) := goodIn_app (goodIn_of _ (by decide +kernel)) ggX9_does_X9_goesRun
set_option maxRecDepth 20000 in
theorem ggX9_does_X9_canDo : GoodIn wsX9_does wsX9_canDo := goodIn_r _ [43, 20, 44, 45, 46, 5, 47, 1, 36, 37, 38, 39, 48, 49, 50, 51, 58, 59, 60, 61, 62, 63, 64, 65, 66, 67, 68, 69, 70, 71, 72, 73, 74, 75, 76, 77, 78, 79] (by decide +kernel) (by decide +kernel)
set_option maxRecDepth 20000 in
theorem gX9_does_X9_canDo : GoodIn wsX9_does (wsV RX9 127 RX9 yX9_canDo wsX9_canDo) := goodIn_app (goodIn_of _ (by decide +kernel)) ggX9_does_X9_canDo
set_option maxRecDepth 20000 in
theorem ggX9_does_X9_keep : GoodIn wsX9_does wsX9_keep := goodIn_r _ [55, 56, 57, 1, 58, 59, 60, 61, 62, 63, 64, 65, 66, 67, 68, 69, 70, 71, 72, 73, 74, 75, 76, 77, 78, 79] (by decide +kernel) (by decide +kernel)
set_option maxRecDepth 20000 in
theorem gX9_does_X9_keep : GoodIn wsX9_does (wsV RX9 90 RX9 yX9_keep wsX9_keep) := goodIn_app (goodIn_of _ (by decide +kernel)) ggX9_does_X9_keep
theorem dX9_does_0 : decode cX9_does 0 = .ok (.iload_n 1, 1) := by decide +kernel
theorem dX9_does_1 : decode cX9_does 1 = .ok (.invokestatic 79, 3) := by decide +kernel
theorem dX9_does_4 : decode cX9_does 4 = .ok (.ifCond .ne 10, 3) := by decide +kernel
theorem dX9_does_7 : decode cX9_does 7 = .ok (.aload_n 0, 1) := by decide +kernel
theorem dX9_does_8 : decode cX9_does 8 = .ok (.bipush (-2), 2) := by decide +kernel
theorem dX9_does_10 : decode cX9_does 10 = .ok (.invokevirtual 87, 3) := by decide +kernel
theorem dX9_does_13 : decode cX9_does 13 = .ok (.ireturn, 1) := by decide +kernel
theorem dX9_does_14 : decode cX9_does 14 = .ok (.aload_n 0, 1) := by decide +kernel
theorem dX9_does_15 : decode cX9_does 15 = .ok (.invokevirtual 179, 3) := by decide +kernel
theorem dX9_does_18 : decode cX9_does 18 = .ok (.aload_n 0, 1) := by decide +kernel
theorem dX9_does_19 : decode cX9_does 19 = .ok (.iload_n 1, 1) := by decide +kernel
theorem dX9_does_20 : decode cX9_does 20 = .ok (.invokevirtual 127, 3) := by decide +kernel
theorem dX9_does_23 : decode cX9_does 23 = .ok (.ifCond .ne 10, 3) := by decide +kernel
theorem dX9_does_26 : decode cX9_does 26 = .ok (.aload_n 0, 1) := by decide +kernel
theorem dX9_does_27 : decode cX9_does 27 = .ok (.bipush (-3), 2) := by decide +kernel
theorem dX9_does_29 : decode cX9_does 29 = .ok (.invokevirtual 87, 3) := by decide +kernel
theorem dX9_does_32 : decode cX9_does 32 = .ok (.ireturn, 1) := by decide +kernel
theorem dX9_does_33 : decode cX9_does 33 = .ok (.aload_n 0, 1) := by decide +kernel
theorem dX9_does_34 : decode cX9_does 34 = .ok (.invokevirtual 90, 3) := by decide +kernel
theorem dX9_does_37 : decode cX9_does 37 = .ok (.aload_n 0, 1) := by decide +kernel
theorem dX9_does_38 : decode cX9_does 38 = .ok (.getfield 7, 3) := by decide +kernel
theorem dX9_does_41 : decode cX9_does 41 = .ok (.bipush 44, 2) := by decide +kernel
theorem dX9_does_43 : decode cX9_does 43 = .ok (.aload_n 0, 1) := by decide +kernel
theorem dX9_does_44 : decode cX9_does 44 = .ok (.getfield 7, 3) := by decide +kernel
theorem dX9_does_47 : decode cX9_does 47 = .ok (.bipush 43, 2) := by decide +kernel
theorem dX9_does_49 : decode cX9_does 49 = .ok (.iaload, 1) := by decide +kernel
theorem dX9_does_50 : decode cX9_does 50 = .ok (.iadd, 1) := by decide +kernel
theorem dX9_does_51 : decode cX9_does 51 = .ok (.iload_n 1, 1) := by decide +kernel
theorem dX9_does_52 : decode cX9_does 52 = .ok (.iastore, 1) := by decide +kernel
theorem dX9_does_53 : decode cX9_does 53 = .ok (.aload_n 0, 1) := by decide +kernel
theorem dX9_does_54 : decode cX9_does 54 = .ok (.getfield 7, 3) := by decide +kernel
theorem dX9_does_57 : decode cX9_does 57 = .ok (.bipush 43, 2) := by decide +kernel
theorem dX9_does_59 : decode cX9_does 59 = .ok (.dup2, 1) := by decide +kernel
theorem dX9_does_60 : decode cX9_does 60 = .ok (.iaload, 1) := by decide +kernel
theorem dX9_does_61 : decode cX9_does 61 = .ok (.iconst 1, 1) := by decide +kernel
theorem dX9_does_62 : decode cX9_does 62 = .ok (.iadd, 1) := by decide +kernel
theorem dX9_does_63 : decode cX9_does 63 = .ok (.iastore, 1) := by decide +kernel
theorem dX9_does_64 : decode cX9_does 64 = .ok (.aload_n 0, 1) := by decide +kernel
theorem dX9_does_65 : decode cX9_does 65 = .ok (.invokevirtual 179, 3) := by decide +kernel
theorem dX9_does_68 : decode cX9_does 68 = .ok (.aload_n 0, 1) := by decide +kernel
theorem dX9_does_69 : decode cX9_does 69 = .ok (.getfield 140, 3) := by decide +kernel
theorem dX9_does_72 : decode cX9_does 72 = .ok (.ireturn, 1) := by decide +kernel
set_option maxRecDepth 20000 in
theorem ggX9_again_X9_keep : GoodIn wsX9_again wsX9_keep := goodIn_r _ [6, 7, 8, 1, 9, 10, 11, 12, 13, 14, 15, 16, 17, 18, 19, 20, 21, 22, 23, 24, 25, 26, 27, 28, 29, 30] (by decide +kernel) (by decide +kernel)
set_option maxRecDepth 20000 in
theorem gX9_again_X9_keep : GoodIn wsX9_again (wsV RX9 90 RX9 yX9_keep wsX9_keep) := goodIn_app (goodIn_of _ (by decide +kernel)) ggX9_again_X9_keep
theorem dX9_again_0 : decode cX9_again 0 = .ok (.aload_n 0, 1) := by decide +kernel
theorem dX9_again_1 : decode cX9_again 1 = .ok (.invokevirtual 90, 3) := by decide +kernel
theorem dX9_again_4 : decode cX9_again 4 = .ok (.aload_n 0, 1) := by decide +kernel
theorem dX9_again_5 : decode cX9_again 5 = .ok (.getfield 7, 3) := by decide +kernel
theorem dX9_again_8 : decode cX9_again 8 = .ok (.bipush 43, 2) := by decide +kernel
theorem dX9_again_10 : decode cX9_again 10 = .ok (.iaload, 1) := by decide +kernel
theorem dX9_again_11 : decode cX9_again 11 = .ok (.istore_n 1, 1) := by decide +kernel
theorem dX9_again_12 : decode cX9_again 12 = .ok (.aload_n 0, 1) := by decide +kernel
theorem dX9_again_13 : decode cX9_again 13 = .ok (.getfield 7, 3) := by decide +kernel
theorem dX9_again_16 : decode cX9_again 16 = .ok (.bipush 43, 2) := by decide +kernel
theorem dX9_again_18 : decode cX9_again 18 = .ok (.iconst 0, 1) := by decide +kernel
theorem dX9_again_19 : decode cX9_again 19 = .ok (.iastore, 1) := by decide +kernel
theorem dX9_again_20 : decode cX9_again 20 = .ok (.iload_n 1, 1) := by decide +kernel
theorem dX9_again_21 : decode cX9_again 21 = .ok (.ireturn, 1) := by decide +kernel
set_option maxRecDepth 20000 in
theorem ggX9_runOf_X9_goesRun : GoodIn wsX9_runOf wsX9_goesRun := goodIn_r _ [8, 1, 9, 10, 11, 12, 7, 13, 14, 15, 16, 17, 18, 19, 2, 3, 20, 21, 22, 23, 24, 25, 26, 27, 44, 45, 46, 47, 48, 49, 50, 51, 52, 53, 54, 55, 56, 57, 58, 59, 60, 61, 62, 63, 64, 65] (by decide +kernel) (by decide +kernel)
set_option maxRecDepth 20000 in
theorem gX9_runOf_X9_goesRun : GoodIn wsX9_runOf (wsV RX9 179 RX9 yX9_goesRun wsX9_goesRun) := goodIn_app (goodIn_of _ (by decide +kernel)) ggX9_runOf_X9_goesRun
set_option maxRecDepth 20000 in
theorem ggX9_runOf_X9_canDo : GoodIn wsX9_runOf wsX9_canDo := goodIn_r _ [31, 9, 32, 33, 34, 7, 35, 1, 24, 25, 26, 27, 36, 37, 38, 39, 44, 45, 46, 47, 48, 49, 50, 51, 52, 53, 54, 55, 56, 57, 58, 59, 60, 61, 62, 63, 64, 65] (by decide +kernel) (by decide +kernel)
set_option maxRecDepth 20000 in
theorem gX9_runOf_X9_canDo : GoodIn wsX9_runOf (wsV RX9 127 RX9 yX9_canDo wsX9_canDo) := goodIn_app (goodIn_of _ (by decide +kernel)) ggX9_runOf_X9_canDo
set_option maxRecDepth 20000 in
theorem ggX9_runOf_X9_told4 : GoodIn wsX9_runOf wsX9_told4 := goodIn_r _ [43] (by decide +kernel) (by decide +kernel)
set_option maxRecDepth 20000 in
theorem gX9_runOf_X9_told4 : GoodIn wsX9_runOf (wsV RX9 150 RX9 yX9_told4 wsX9_told4) := goodIn_app (goodIn_of _ (by decide +kernel)) ggX9_runOf_X9_told4
set_option maxRecDepth 20000 in
theorem ggX9_runOf_X9_holder : GoodIn wsX9_runOf wsX9_holder := goodIn_r _ [39, 9, 24, 25, 26, 7, 27, 1, 44, 45, 46, 47, 48, 49, 50, 51, 52, 53, 54, 55, 56, 57, 58, 59, 60, 61, 62, 63, 64, 65] (by decide +kernel) (by decide +kernel)
set_option maxRecDepth 20000 in
theorem gX9_runOf_X9_holder : GoodIn wsX9_runOf (wsV RX9 124 RX9 yX9_holder wsX9_holder) := goodIn_app (goodIn_of _ (by decide +kernel)) ggX9_runOf_X9_holder
theorem dX9_runOf_0 : decode cX9_runOf 0 = .ok (.aload_n 0, 1) := by decide +kernel
theorem dX9_runOf_1 : decode cX9_runOf 1 = .ok (.invokevirtual 179, 3) := by decide +kernel
theorem dX9_runOf_4 : decode cX9_runOf 4 = .ok (.iload_n 1, 1) := by decide +kernel
theorem dX9_runOf_5 : decode cX9_runOf 5 = .ok (.tableswitch 115 0 3 #[31, 73, 81, 86], 31) := by decide +kernel
theorem dX9_runOf_36 : decode cX9_runOf 36 = .ok (.aload_n 0, 1) := by decide +kernel
theorem dX9_runOf_37 : decode cX9_runOf 37 = .ok (.iconst 0, 1) := by decide +kernel
theorem dX9_runOf_38 : decode cX9_runOf 38 = .ok (.invokevirtual 127, 3) := by decide +kernel
theorem dX9_runOf_41 : decode cX9_runOf 41 = .ok (.ifCond .eq 7, 3) := by decide +kernel
theorem dX9_runOf_44 : decode cX9_runOf 44 = .ok (.iconst 1, 1) := by decide +kernel
theorem dX9_runOf_45 : decode cX9_runOf 45 = .ok (.goto 4, 3) := by decide +kernel
theorem dX9_runOf_48 : decode cX9_runOf 48 = .ok (.iconst 0, 1) := by decide +kernel
theorem dX9_runOf_49 : decode cX9_runOf 49 = .ok (.aload_n 0, 1) := by decide +kernel
theorem dX9_runOf_50 : decode cX9_runOf 50 = .ok (.iconst 1, 1) := by decide +kernel
theorem dX9_runOf_51 : decode cX9_runOf 51 = .ok (.invokevirtual 127, 3) := by decide +kernel
theorem dX9_runOf_54 : decode cX9_runOf 54 = .ok (.ifCond .eq 7, 3) := by decide +kernel
theorem dX9_runOf_57 : decode cX9_runOf 57 = .ok (.iconst 2, 1) := by decide +kernel
theorem dX9_runOf_58 : decode cX9_runOf 58 = .ok (.goto 4, 3) := by decide +kernel
theorem dX9_runOf_61 : decode cX9_runOf 61 = .ok (.iconst 0, 1) := by decide +kernel
theorem dX9_runOf_62 : decode cX9_runOf 62 = .ok (.ior, 1) := by decide +kernel
theorem dX9_runOf_63 : decode cX9_runOf 63 = .ok (.aload_n 0, 1) := by decide +kernel
theorem dX9_runOf_64 : decode cX9_runOf 64 = .ok (.iconst 2, 1) := by decide +kernel
theorem dX9_runOf_65 : decode cX9_runOf 65 = .ok (.invokevirtual 127, 3) := by decide +kernel
theorem dX9_runOf_68 : decode cX9_runOf 68 = .ok (.ifCond .eq 7, 3) := by decide +kernel
theorem dX9_runOf_71 : decode cX9_runOf 71 = .ok (.iconst 4, 1) := by decide +kernel
theorem dX9_runOf_72 : decode cX9_runOf 72 = .ok (.goto 4, 3) := by decide +kernel
theorem dX9_runOf_75 : decode cX9_runOf 75 = .ok (.iconst 0, 1) := by decide +kernel
theorem dX9_runOf_76 : decode cX9_runOf 76 = .ok (.ior, 1) := by decide +kernel
theorem dX9_runOf_77 : decode cX9_runOf 77 = .ok (.ireturn, 1) := by decide +kernel
theorem dX9_runOf_78 : decode cX9_runOf 78 = .ok (.aload_n 0, 1) := by decide +kernel
theorem dX9_runOf_79 : decode cX9_runOf 79 = .ok (.getfield 7, 3) := by decide +kernel
theorem dX9_runOf_82 : decode cX9_runOf 82 = .ok (.bipush 43, 2) := by decide +kernel
theorem dX9_runOf_84 : decode cX9_runOf 84 = .ok (.iaload, 1) := by decide +kernel
theorem dX9_runOf_85 : decode cX9_runOf 85 = .ok (.ireturn, 1) := by decide +kernel
theorem dX9_runOf_86 : decode cX9_runOf 86 = .ok (.aload_n 0, 1) := by decide +kernel
theorem dX9_runOf_87 : decode cX9_runOf 87 = .ok (.getfield 140, 3) := by decide +kernel
theorem dX9_runOf_90 : decode cX9_runOf 90 = .ok (.ireturn, 1) := by decide +kernel
theorem dX9_runOf_91 : decode cX9_runOf 91 = .ok (.aload_n 0, 1) := by decide +kernel
theorem dX9_runOf_92 : decode cX9_runOf 92 = .ok (.aload_n 0, 1) := by decide +kernel
theorem dX9_runOf_93 : decode cX9_runOf 93 = .ok (.getfield 31, 3) := by decide +kernel
theorem dX9_runOf_96 : decode cX9_runOf 96 = .ok (.iconst 0, 1) := by decide +kernel
theorem dX9_runOf_97 : decode cX9_runOf 97 = .ok (.iaload, 1) := by decide +kernel
theorem dX9_runOf_98 : decode cX9_runOf 98 = .ok (.aload_n 0, 1) := by decide +kernel
theorem dX9_runOf_99 : decode cX9_runOf 99 = .ok (.getfield 31, 3) := by decide +kernel
theorem dX9_runOf_102 : decode cX9_runOf 102 = .ok (.iconst 1, 1) := by decide +kernel
theorem dX9_runOf_103 : decode cX9_runOf 103 = .ok (.iaload, 1) := by decide +kernel
theorem dX9_runOf_104 : decode cX9_runOf 104 = .ok (.aload_n 0, 1) := by decide +kernel
theorem dX9_runOf_105 : decode cX9_runOf 105 = .ok (.getfield 31, 3) := by decide +kernel
theorem dX9_runOf_108 : decode cX9_runOf 108 = .ok (.iconst 2, 1) := by decide +kernel
theorem dX9_runOf_109 : decode cX9_runOf 109 = .ok (.iaload, 1) := by decide +kernel
theorem dX9_runOf_110 : decode cX9_runOf 110 = .ok (.aload_n 0, 1) := by decide +kernel
theorem dX9_runOf_111 : decode cX9_runOf 111 = .ok (.getfield 31, 3) := by decide +kernel
theorem dX9_runOf_114 : decode cX9_runOf 114 = .ok (.iconst 3, 1) := by decide +kernel
theorem dX9_runOf_115 : decode cX9_runOf 115 = .ok (.iaload, 1) := by decide +kernel
theorem dX9_runOf_116 : decode cX9_runOf 116 = .ok (.invokevirtual 150, 3) := by decide +kernel
theorem dX9_runOf_119 : decode cX9_runOf 119 = .ok (.ireturn, 1) := by decide +kernel
theorem dX9_runOf_120 : decode cX9_runOf 120 = .ok (.aload_n 0, 1) := by decide +kernel
theorem dX9_runOf_121 : decode cX9_runOf 121 = .ok (.iload_n 1, 1) := by decide +kernel
theorem dX9_runOf_122 : decode cX9_runOf 122 = .ok (.iconst 4, 1) := by decide +kernel
theorem dX9_runOf_123 : decode cX9_runOf 123 = .ok (.isub, 1) := by decide +kernel
theorem dX9_runOf_124 : decode cX9_runOf 124 = .ok (.invokevirtual 124, 3) := by decide +kernel
theorem dX9_runOf_127 : decode cX9_runOf 127 = .ok (.ireturn, 1) := by decide +kernel
set_option maxRecDepth 20000 in
theorem ggX9_run_X9_in : GoodIn wsX9_run wsX9_in := goodIn_r _ [5] (by decide +kernel) (by decide +kernel)
set_option maxRecDepth 20000 in
theorem gX9_run_X9_in : GoodIn wsX9_run (va_wsS RX9 65 yX9_in wsX9_in) := goodIn_app (goodIn_of _ (by decide +kernel)) ggX9_run_X9_in
set_option maxRecDepth 20000 in
theorem ggX9_run_X9_runOf : GoodIn wsX9_run wsX9_runOf := goodIn_r _ [9, 10, 11, 12, 13, 14, 15, 4, 16, 17, 18, 19, 20, 21, 22, 23, 24, 25, 26, 27, 28, 29, 30, 31, 32, 33, 34, 35, 36, 37, 38, 39, 40, 41, 42, 43, 44, 45, 46, 47, 48, 49, 50, 51, 57, 58, 59, 60, 61, 62, 63, 64, 65, 66, 67, 68, 69, 70, 71, 72, 73, 74, 75, 76, 77, 78] (by decide +kernel) (by decide +kernel)
set_option maxRecDepth 20000 in
theorem gX9_run_X9_runOf : GoodIn wsX9_run (wsV RX9 182 RX9 yX9_runOf wsX9_runOf) := goodIn_app (goodIn_of _ (by decide +kernel)) ggX9_run_X9_runOf
set_option maxRecDepth 20000 in
theorem ggX9_run_X9_refuses : GoodIn wsX9_run wsX9_refuses := goodIn_r _ [55, 56, 57, 58, 59, 60, 61, 62, 63, 64, 65, 66, 67, 68, 69, 70, 71, 72, 73, 74, 75, 76, 77, 78] (by decide +kernel) (by decide +kernel)
set_option maxRecDepth 20000 in
theorem gX9_run_X9_refuses : GoodIn wsX9_run (wsV RX9 87 RX9 yX9_refuses wsX9_refuses) := goodIn_app (goodIn_of _ (by decide +kernel)) ggX9_run_X9_refuses
theorem dX9_run_0 : decode cX9_run 0 = .ok (.iload_n 1, 1) := by decide +kernel
theorem dX9_run_1 : decode cX9_run 1 = .ok (.i2l, 1) := by decide +kernel
theorem dX9_run_2 : decode cX9_run 2 = .ok (.lconst 0, 1) := by decide +kernel
theorem dX9_run_3 : decode cX9_run 3 = .ok (.ldc2_w 63, 3) := by decide +kernel
theorem dX9_run_6 : decode cX9_run 6 = .ok (.invokestatic 65, 3) := by decide +kernel
theorem dX9_run_9 : decode cX9_run 9 = .ok (.ifCond .eq 11, 3) := by decide +kernel
theorem dX9_run_12 : decode cX9_run 12 = .ok (.aload_n 0, 1) := by decide +kernel
theorem dX9_run_13 : decode cX9_run 13 = .ok (.iload_n 1, 1) := by decide +kernel
theorem dX9_run_14 : decode cX9_run 14 = .ok (.invokevirtual 182, 3) := by decide +kernel
theorem dX9_run_17 : decode cX9_run 17 = .ok (.goto 9, 3) := by decide +kernel
theorem dX9_run_20 : decode cX9_run 20 = .ok (.aload_n 0, 1) := by decide +kernel
theorem dX9_run_21 : decode cX9_run 21 = .ok (.bipush (-2), 2) := by decide +kernel
theorem dX9_run_23 : decode cX9_run 23 = .ok (.invokevirtual 87, 3) := by decide +kernel
theorem dX9_run_26 : decode cX9_run 26 = .ok (.ireturn, 1) := by decide +kernel
set_option maxRecDepth 20000 in
theorem ggX9_isNext_X9_areDependent : GoodIn wsX9_isNext wsX9_areDependent := goodIn_r _ [8, 9, 10, 11, 7, 12, 2, 13, 14, 15, 16, 17, 18, 19, 20, 21, 22, 23, 24, 25, 26, 27, 28, 29, 30, 31, 32, 33, 34, 35, 36, 37, 38, 39, 40, 41, 42, 43, 44, 45, 46] (by decide +kernel) (by decide +kernel)
set_option maxRecDepth 20000 in
theorem gX9_isNext_X9_areDependent : GoodIn wsX9_isNext (wsV RX9 121 RX9 yX9_areDependent wsX9_areDependent) := goodIn_app (goodIn_of _ (by decide +kernel)) ggX9_isNext_X9_areDependent
theorem dX9_isNext_0 : decode cX9_isNext 0 = .ok (.aload_n 0, 1) := by decide +kernel
theorem dX9_isNext_1 : decode cX9_isNext 1 = .ok (.getfield 47, 3) := by decide +kernel
theorem dX9_isNext_4 : decode cX9_isNext 4 = .ok (.iload_n 1, 1) := by decide +kernel
theorem dX9_isNext_5 : decode cX9_isNext 5 = .ok (.baload, 1) := by decide +kernel
theorem dX9_isNext_6 : decode cX9_isNext 6 = .ok (.ifCond .ne 7, 3) := by decide +kernel
theorem dX9_isNext_9 : decode cX9_isNext 9 = .ok (.iconst 1, 1) := by decide +kernel
theorem dX9_isNext_10 : decode cX9_isNext 10 = .ok (.goto 4, 3) := by decide +kernel
theorem dX9_isNext_13 : decode cX9_isNext 13 = .ok (.iconst 0, 1) := by decide +kernel
theorem dX9_isNext_14 : decode cX9_isNext 14 = .ok (.istore_n 2, 1) := by decide +kernel
theorem dX9_isNext_15 : decode cX9_isNext 15 = .ok (.iconst 0, 1) := by decide +kernel
theorem dX9_isNext_16 : decode cX9_isNext 16 = .ok (.istore_n 3, 1) := by decide +kernel
theorem dX9_isNext_17 : decode cX9_isNext 17 = .ok (.iload_n 3, 1) := by decide +kernel
theorem dX9_isNext_18 : decode cX9_isNext 18 = .ok (.iload_n 1, 1) := by decide +kernel
theorem dX9_isNext_19 : decode cX9_isNext 19 = .ok (.if_icmp .ge 65, 3) := by decide +kernel
theorem dX9_isNext_22 : decode cX9_isNext 22 = .ok (.iload_n 2, 1) := by decide +kernel
theorem dX9_isNext_23 : decode cX9_isNext 23 = .ok (.ifCond .eq 61, 3) := by decide +kernel
theorem dX9_isNext_26 : decode cX9_isNext 26 = .ok (.aload_n 0, 1) := by decide +kernel
theorem dX9_isNext_27 : decode cX9_isNext 27 = .ok (.getfield 47, 3) := by decide +kernel
theorem dX9_isNext_30 : decode cX9_isNext 30 = .ok (.iload_n 3, 1) := by decide +kernel
theorem dX9_isNext_31 : decode cX9_isNext 31 = .ok (.baload, 1) := by decide +kernel
theorem dX9_isNext_32 : decode cX9_isNext 32 = .ok (.ifCond .ne 40, 3) := by decide +kernel
theorem dX9_isNext_35 : decode cX9_isNext 35 = .ok (.aload_n 0, 1) := by decide +kernel
theorem dX9_isNext_36 : decode cX9_isNext 36 = .ok (.aload_n 0, 1) := by decide +kernel
theorem dX9_isNext_37 : decode cX9_isNext 37 = .ok (.getfield 7, 3) := by decide +kernel
theorem dX9_isNext_40 : decode cX9_isNext 40 = .ok (.bipush 44, 2) := by decide +kernel
theorem dX9_isNext_42 : decode cX9_isNext 42 = .ok (.iload_n 3, 1) := by decide +kernel
theorem dX9_isNext_43 : decode cX9_isNext 43 = .ok (.iadd, 1) := by decide +kernel
theorem dX9_isNext_44 : decode cX9_isNext 44 = .ok (.iaload, 1) := by decide +kernel
theorem dX9_isNext_45 : decode cX9_isNext 45 = .ok (.aload_n 0, 1) := by decide +kernel
theorem dX9_isNext_46 : decode cX9_isNext 46 = .ok (.getfield 44, 3) := by decide +kernel
theorem dX9_isNext_49 : decode cX9_isNext 49 = .ok (.iload_n 3, 1) := by decide +kernel
theorem dX9_isNext_50 : decode cX9_isNext 50 = .ok (.iaload, 1) := by decide +kernel
theorem dX9_isNext_51 : decode cX9_isNext 51 = .ok (.aload_n 0, 1) := by decide +kernel
theorem dX9_isNext_52 : decode cX9_isNext 52 = .ok (.getfield 7, 3) := by decide +kernel
theorem dX9_isNext_55 : decode cX9_isNext 55 = .ok (.bipush 44, 2) := by decide +kernel
theorem dX9_isNext_57 : decode cX9_isNext 57 = .ok (.iload_n 1, 1) := by decide +kernel
theorem dX9_isNext_58 : decode cX9_isNext 58 = .ok (.iadd, 1) := by decide +kernel
theorem dX9_isNext_59 : decode cX9_isNext 59 = .ok (.iaload, 1) := by decide +kernel
theorem dX9_isNext_60 : decode cX9_isNext 60 = .ok (.aload_n 0, 1) := by decide +kernel
theorem dX9_isNext_61 : decode cX9_isNext 61 = .ok (.getfield 44, 3) := by decide +kernel
theorem dX9_isNext_64 : decode cX9_isNext 64 = .ok (.iload_n 1, 1) := by decide +kernel
theorem dX9_isNext_65 : decode cX9_isNext 65 = .ok (.iaload, 1) := by decide +kernel
theorem dX9_isNext_66 : decode cX9_isNext 66 = .ok (.invokevirtual 121, 3) := by decide +kernel
theorem dX9_isNext_69 : decode cX9_isNext 69 = .ok (.ifCond .ne 7, 3) := by decide +kernel
theorem dX9_isNext_72 : decode cX9_isNext 72 = .ok (.iconst 1, 1) := by decide +kernel
theorem dX9_isNext_73 : decode cX9_isNext 73 = .ok (.goto 4, 3) := by decide +kernel
theorem dX9_isNext_76 : decode cX9_isNext 76 = .ok (.iconst 0, 1) := by decide +kernel
theorem dX9_isNext_77 : decode cX9_isNext 77 = .ok (.istore_n 2, 1) := by decide +kernel
theorem dX9_isNext_78 : decode cX9_isNext 78 = .ok (.iinc 3 1, 3) := by decide +kernel
theorem dX9_isNext_81 : decode cX9_isNext 81 = .ok (.goto (-64), 3) := by decide +kernel
theorem dX9_isNext_84 : decode cX9_isNext 84 = .ok (.iload_n 2, 1) := by decide +kernel
theorem dX9_isNext_85 : decode cX9_isNext 85 = .ok (.ireturn, 1) := by decide +kernel
set_option maxRecDepth 20000 in
theorem ggX9_laysFirst_X9_starts : GoodIn wsX9_laysFirst wsX9_starts := goodIn_r _ [10, 11, 12, 3, 37, 38, 39, 40, 41, 42, 43, 44, 45, 46, 47, 48, 49, 50, 51, 52, 53, 54, 55, 56, 57, 58] (by decide +kernel) (by decide +kernel)
set_option maxRecDepth 20000 in
theorem gX9_laysFirst_X9_starts : GoodIn wsX9_laysFirst (wsV RX9 154 RX9 yX9_starts wsX9_starts) := goodIn_app (goodIn_of _ (by decide +kernel)) ggX9_laysFirst_X9_starts
set_option maxRecDepth 20000 in
theorem ggX9_laysFirst_X9_isNext : GoodIn wsX9_laysFirst wsX9_isNext := goodIn_r _ [16, 4, 1, 2, 17, 18, 19, 9, 20, 21, 22, 23, 24, 25, 26, 27, 28, 29, 30, 31, 32, 33, 34, 35, 36, 37, 38, 39, 40, 41, 42, 43, 44, 45, 46, 47, 48, 49, 50, 51, 52, 53, 54, 55, 56, 57, 58] (by decide +kernel) (by decide +kernel)
set_option maxRecDepth 20000 in
theorem gX9_laysFirst_X9_isNext : GoodIn wsX9_laysFirst (wsV RX9 185 RX9 yX9_isNext wsX9_isNext) := goodIn_app (goodIn_of _ (by decide +kernel)) ggX9_laysFirst_X9_isNext
theorem dX9_laysFirst_0 : decode cX9_laysFirst 0 = .ok (.aload_n 0, 1) := by decide +kernel
theorem dX9_laysFirst_1 : decode cX9_laysFirst 1 = .ok (.invokevirtual 154, 3) := by decide +kernel
theorem dX9_laysFirst_4 : decode cX9_laysFirst 4 = .ok (.aload_n 0, 1) := by decide +kernel
theorem dX9_laysFirst_5 : decode cX9_laysFirst 5 = .ok (.getfield 7, 3) := by decide +kernel
theorem dX9_laysFirst_8 : decode cX9_laysFirst 8 = .ok (.bipush 43, 2) := by decide +kernel
theorem dX9_laysFirst_10 : decode cX9_laysFirst 10 = .ok (.iaload, 1) := by decide +kernel
theorem dX9_laysFirst_11 : decode cX9_laysFirst 11 = .ok (.istore_n 1, 1) := by decide +kernel
theorem dX9_laysFirst_12 : decode cX9_laysFirst 12 = .ok (.iconst 0, 1) := by decide +kernel
theorem dX9_laysFirst_13 : decode cX9_laysFirst 13 = .ok (.istore_n 2, 1) := by decide +kernel
theorem dX9_laysFirst_14 : decode cX9_laysFirst 14 = .ok (.iload_n 2, 1) := by decide +kernel
theorem dX9_laysFirst_15 : decode cX9_laysFirst 15 = .ok (.iload_n 1, 1) := by decide +kernel
theorem dX9_laysFirst_16 : decode cX9_laysFirst 16 = .ok (.if_icmp .ge 48, 3) := by decide +kernel
theorem dX9_laysFirst_19 : decode cX9_laysFirst 19 = .ok (.aload_n 0, 1) := by decide +kernel
theorem dX9_laysFirst_20 : decode cX9_laysFirst 20 = .ok (.getfield 7, 3) := by decide +kernel
theorem dX9_laysFirst_23 : decode cX9_laysFirst 23 = .ok (.bipush 44, 2) := by decide +kernel
theorem dX9_laysFirst_25 : decode cX9_laysFirst 25 = .ok (.iload_n 2, 1) := by decide +kernel
theorem dX9_laysFirst_26 : decode cX9_laysFirst 26 = .ok (.iadd, 1) := by decide +kernel
theorem dX9_laysFirst_27 : decode cX9_laysFirst 27 = .ok (.iaload, 1) := by decide +kernel
theorem dX9_laysFirst_28 : decode cX9_laysFirst 28 = .ok (.istore_n 3, 1) := by decide +kernel
theorem dX9_laysFirst_29 : decode cX9_laysFirst 29 = .ok (.aload_n 0, 1) := by decide +kernel
theorem dX9_laysFirst_30 : decode cX9_laysFirst 30 = .ok (.getfield 44, 3) := by decide +kernel
theorem dX9_laysFirst_33 : decode cX9_laysFirst 33 = .ok (.iload_n 2, 1) := by decide +kernel
theorem dX9_laysFirst_34 : decode cX9_laysFirst 34 = .ok (.aload_n 0, 1) := by decide +kernel
theorem dX9_laysFirst_35 : decode cX9_laysFirst 35 = .ok (.getfield 19, 3) := by decide +kernel
theorem dX9_laysFirst_38 : decode cX9_laysFirst 38 = .ok (.iload_n 3, 1) := by decide +kernel
theorem dX9_laysFirst_39 : decode cX9_laysFirst 39 = .ok (.iaload, 1) := by decide +kernel
theorem dX9_laysFirst_40 : decode cX9_laysFirst 40 = .ok (.iastore, 1) := by decide +kernel
theorem dX9_laysFirst_41 : decode cX9_laysFirst 41 = .ok (.aload_n 0, 1) := by decide +kernel
theorem dX9_laysFirst_42 : decode cX9_laysFirst 42 = .ok (.getfield 19, 3) := by decide +kernel
theorem dX9_laysFirst_45 : decode cX9_laysFirst 45 = .ok (.iload_n 3, 1) := by decide +kernel
theorem dX9_laysFirst_46 : decode cX9_laysFirst 46 = .ok (.dup2, 1) := by decide +kernel
theorem dX9_laysFirst_47 : decode cX9_laysFirst 47 = .ok (.iaload, 1) := by decide +kernel
theorem dX9_laysFirst_48 : decode cX9_laysFirst 48 = .ok (.iconst 1, 1) := by decide +kernel
theorem dX9_laysFirst_49 : decode cX9_laysFirst 49 = .ok (.iadd, 1) := by decide +kernel
theorem dX9_laysFirst_50 : decode cX9_laysFirst 50 = .ok (.iastore, 1) := by decide +kernel
theorem dX9_laysFirst_51 : decode cX9_laysFirst 51 = .ok (.aload_n 0, 1) := by decide +kernel
theorem dX9_laysFirst_52 : decode cX9_laysFirst 52 = .ok (.getfield 47, 3) := by decide +kernel
theorem dX9_laysFirst_55 : decode cX9_laysFirst 55 = .ok (.iload_n 2, 1) := by decide +kernel
theorem dX9_laysFirst_56 : decode cX9_laysFirst 56 = .ok (.iconst 0, 1) := by decide +kernel
theorem dX9_laysFirst_57 : decode cX9_laysFirst 57 = .ok (.bastore, 1) := by decide +kernel
theorem dX9_laysFirst_58 : decode cX9_laysFirst 58 = .ok (.iinc 2 1, 3) := by decide +kernel
theorem dX9_laysFirst_61 : decode cX9_laysFirst 61 = .ok (.goto (-47), 3) := by decide +kernel
theorem dX9_laysFirst_64 : decode cX9_laysFirst 64 = .ok (.iconst 0, 1) := by decide +kernel
theorem dX9_laysFirst_65 : decode cX9_laysFirst 65 = .ok (.istore_n 2, 1) := by decide +kernel
theorem dX9_laysFirst_66 : decode cX9_laysFirst 66 = .ok (.iload_n 2, 1) := by decide +kernel
theorem dX9_laysFirst_67 : decode cX9_laysFirst 67 = .ok (.iload_n 1, 1) := by decide +kernel
theorem dX9_laysFirst_68 : decode cX9_laysFirst 68 = .ok (.if_icmp .ge 91, 3) := by decide +kernel
theorem dX9_laysFirst_71 : decode cX9_laysFirst 71 = .ok (.iconst (-1), 1) := by decide +kernel
theorem dX9_laysFirst_72 : decode cX9_laysFirst 72 = .ok (.istore_n 3, 1) := by decide +kernel
theorem dX9_laysFirst_73 : decode cX9_laysFirst 73 = .ok (.iconst 0, 1) := by decide +kernel
theorem dX9_laysFirst_74 : decode cX9_laysFirst 74 = .ok (.istore 4, 2) := by decide +kernel
theorem dX9_laysFirst_76 : decode cX9_laysFirst 76 = .ok (.iload 4, 2) := by decide +kernel
theorem dX9_laysFirst_78 : decode cX9_laysFirst 78 = .ok (.iload_n 1, 1) := by decide +kernel
theorem dX9_laysFirst_79 : decode cX9_laysFirst 79 = .ok (.if_icmp .ge 52, 3) := by decide +kernel
theorem dX9_laysFirst_82 : decode cX9_laysFirst 82 = .ok (.aload_n 0, 1) := by decide +kernel
theorem dX9_laysFirst_83 : decode cX9_laysFirst 83 = .ok (.iload 4, 2) := by decide +kernel
theorem dX9_laysFirst_85 : decode cX9_laysFirst 85 = .ok (.invokevirtual 185, 3) := by decide +kernel
theorem dX9_laysFirst_88 : decode cX9_laysFirst 88 = .ok (.ifCond .eq 35, 3) := by decide +kernel
theorem dX9_laysFirst_91 : decode cX9_laysFirst 91 = .ok (.iload_n 3, 1) := by decide +kernel
theorem dX9_laysFirst_92 : decode cX9_laysFirst 92 = .ok (.iconst (-1), 1) := by decide +kernel
theorem dX9_laysFirst_93 : decode cX9_laysFirst 93 = .ok (.if_icmp .eq 25, 3) := by decide +kernel
theorem dX9_laysFirst_96 : decode cX9_laysFirst 96 = .ok (.aload_n 0, 1) := by decide +kernel
theorem dX9_laysFirst_97 : decode cX9_laysFirst 97 = .ok (.getfield 7, 3) := by decide +kernel
theorem dX9_laysFirst_100 : decode cX9_laysFirst 100 = .ok (.bipush 44, 2) := by decide +kernel
theorem dX9_laysFirst_102 : decode cX9_laysFirst 102 = .ok (.iload 4, 2) := by decide +kernel
theorem dX9_laysFirst_104 : decode cX9_laysFirst 104 = .ok (.iadd, 1) := by decide +kernel
theorem dX9_laysFirst_105 : decode cX9_laysFirst 105 = .ok (.iaload, 1) := by decide +kernel
theorem dX9_laysFirst_106 : decode cX9_laysFirst 106 = .ok (.aload_n 0, 1) := by decide +kernel
theorem dX9_laysFirst_107 : decode cX9_laysFirst 107 = .ok (.getfield 7, 3) := by decide +kernel
theorem dX9_laysFirst_110 : decode cX9_laysFirst 110 = .ok (.bipush 44, 2) := by decide +kernel
theorem dX9_laysFirst_112 : decode cX9_laysFirst 112 = .ok (.iload_n 3, 1) := by decide +kernel
theorem dX9_laysFirst_113 : decode cX9_laysFirst 113 = .ok (.iadd, 1) := by decide +kernel
theorem dX9_laysFirst_114 : decode cX9_laysFirst 114 = .ok (.iaload, 1) := by decide +kernel
theorem dX9_laysFirst_115 : decode cX9_laysFirst 115 = .ok (.if_icmp .ge 8, 3) := by decide +kernel
theorem dX9_laysFirst_118 : decode cX9_laysFirst 118 = .ok (.iload 4, 2) := by decide +kernel
theorem dX9_laysFirst_120 : decode cX9_laysFirst 120 = .ok (.goto 4, 3) := by decide +kernel
theorem dX9_laysFirst_123 : decode cX9_laysFirst 123 = .ok (.iload_n 3, 1) := by decide +kernel
theorem dX9_laysFirst_124 : decode cX9_laysFirst 124 = .ok (.istore_n 3, 1) := by decide +kernel
theorem dX9_laysFirst_125 : decode cX9_laysFirst 125 = .ok (.iinc 4 1, 3) := by decide +kernel
theorem dX9_laysFirst_128 : decode cX9_laysFirst 128 = .ok (.goto (-52), 3) := by decide +kernel
theorem dX9_laysFirst_131 : decode cX9_laysFirst 131 = .ok (.aload_n 0, 1) := by decide +kernel
theorem dX9_laysFirst_132 : decode cX9_laysFirst 132 = .ok (.getfield 47, 3) := by decide +kernel
theorem dX9_laysFirst_135 : decode cX9_laysFirst 135 = .ok (.iload_n 3, 1) := by decide +kernel
theorem dX9_laysFirst_136 : decode cX9_laysFirst 136 = .ok (.iconst 1, 1) := by decide +kernel
theorem dX9_laysFirst_137 : decode cX9_laysFirst 137 = .ok (.bastore, 1) := by decide +kernel
theorem dX9_laysFirst_138 : decode cX9_laysFirst 138 = .ok (.aload_n 0, 1) := by decide +kernel
theorem dX9_laysFirst_139 : decode cX9_laysFirst 139 = .ok (.getfield 50, 3) := by decide +kernel
theorem dX9_laysFirst_142 : decode cX9_laysFirst 142 = .ok (.iload_n 2, 1) := by decide +kernel
theorem dX9_laysFirst_143 : decode cX9_laysFirst 143 = .ok (.aload_n 0, 1) := by decide +kernel
theorem dX9_laysFirst_144 : decode cX9_laysFirst 144 = .ok (.getfield 7, 3) := by decide +kernel
theorem dX9_laysFirst_147 : decode cX9_laysFirst 147 = .ok (.bipush 44, 2) := by decide +kernel
theorem dX9_laysFirst_149 : decode cX9_laysFirst 149 = .ok (.iload_n 3, 1) := by decide +kernel
theorem dX9_laysFirst_150 : decode cX9_laysFirst 150 = .ok (.iadd, 1) := by decide +kernel
theorem dX9_laysFirst_151 : decode cX9_laysFirst 151 = .ok (.iaload, 1) := by decide +kernel
theorem dX9_laysFirst_152 : decode cX9_laysFirst 152 = .ok (.iastore, 1) := by decide +kernel
theorem dX9_laysFirst_153 : decode cX9_laysFirst 153 = .ok (.iinc 2 1, 3) := by decide +kernel
theorem dX9_laysFirst_156 : decode cX9_laysFirst 156 = .ok (.goto (-90), 3) := by decide +kernel
theorem dX9_laysFirst_159 : decode cX9_laysFirst 159 = .ok (.return_, 1) := by decide +kernel
set_option maxRecDepth 20000 in
theorem ggX9_which_X9_goesRun : GoodIn wsX9_which wsX9_goesRun := goodIn_r _ [9, 2, 10, 11, 12, 13, 8, 14, 1, 15, 16, 17, 18, 19, 20, 21, 22, 23, 24, 25, 26, 27, 28, 29, 81, 82, 83, 84, 85, 86, 87, 88, 89, 90, 91, 92, 93, 94, 95, 96, 97, 98, 99, 100, 101, 102] (by decide +kernel) (by decide +kernel)
set_option maxRecDepth 20000 in
theorem gX9_which_X9_goesRun : GoodIn wsX9_which (wsV RX9 179 RX9 yX9_goesRun wsX9_goesRun) := goodIn_app (goodIn_of _ (by decide +kernel)) ggX9_which_X9_goesRun
set_option maxRecDepth 20000 in
theorem ggX9_which_X9_isStill : GoodIn wsX9_which wsX9_isStill := goodIn_r _ [33, 34, 35, 36, 8, 37, 10, 38, 39, 40, 41, 2, 26, 27, 28, 29, 42, 43, 44, 45, 81, 82, 83, 84, 85, 86, 87, 88, 89, 90, 91, 92, 93, 94, 95, 96, 97, 98, 99, 100, 101, 102] (by decide +kernel) (by decide +kernel)
set_option maxRecDepth 20000 in
theorem gX9_which_X9_isStill : GoodIn wsX9_which (wsV RX9 133 RX9 yX9_isStill wsX9_isStill) := goodIn_app (goodIn_of _ (by decide +kernel)) ggX9_which_X9_isStill
set_option maxRecDepth 20000 in
theorem ggX9_which_X9_laysFirst : GoodIn wsX9_which wsX9_laysFirst := goodIn_r _ [49, 2, 50, 10, 51, 4, 11, 12, 13, 8, 14, 1, 15, 52, 53, 54, 55, 56, 57, 58, 59, 26, 27, 28, 29, 60, 61, 62, 63, 64, 65, 66, 67, 68, 69, 70, 71, 81, 82, 83, 84, 85, 86, 87, 88, 89, 90, 91, 92, 93, 94, 95, 96, 97, 98, 99, 100, 101, 102] (by decide +kernel) (by decide +kernel)
set_option maxRecDepth 20000 in
theorem gX9_which_X9_laysFirst : GoodIn wsX9_which (wsV RX9 188 RX9 yX9_laysFirst wsX9_laysFirst) := goodIn_app (goodIn_of _ (by decide +kernel)) ggX9_which_X9_laysFirst
set_option maxRecDepth 20000 in
theorem ggX9_which_X9_starts : GoodIn wsX9_which wsX9_starts := goodIn_r _ [14, 1, 15, 10, 81, 82, 83, 84, 85, 86, 87, 88, 89, 90, 91, 92, 93, 94, 95, 96, 97, 98, 99, 100, 101, 102] (by decide +kernel) (by decide +kernel)
set_option maxRecDepth 20000 in
theorem gX9_which_X9_starts : GoodIn wsX9_which (wsV RX9 154 RX9 yX9_starts wsX9_starts) := goodIn_app (goodIn_of _ (by decide +kernel)) ggX9_which_X9_starts
set_option maxRecDepth 20000 in
theorem ggX9_which_X9_goesOn : GoodIn wsX9_which wsX9_goesOn := goodIn_r _ [75, 15, 1, 3, 76, 10, 30, 31, 32, 8, 33, 34, 35, 36, 37, 38, 39, 40, 41, 2, 26, 27, 28, 29, 42, 43, 44, 45, 77, 78, 79, 80, 56, 57, 58, 59, 60, 61, 62, 63, 64, 65, 66, 67, 68, 69, 70, 71, 81, 82, 83, 84, 85, 86, 87, 88, 89, 90, 91, 92, 93, 94, 95, 96, 97, 98, 99, 100, 101, 102] (by decide +kernel) (by decide +kernel)
set_option maxRecDepth 20000 in
theorem gX9_which_X9_goesOn : GoodIn wsX9_which (wsV RX9 157 RX9 yX9_goesOn wsX9_goesOn) := goodIn_app (goodIn_of _ (by decide +kernel)) ggX9_which_X9_goesOn
theorem dX9_which_0 : decode cX9_which 0 = .ok (.aload_n 0, 1) := by decide +kernel
theorem dX9_which_1 : decode cX9_which 1 = .ok (.invokevirtual 179, 3) := by decide +kernel
theorem dX9_which_4 : decode cX9_which 4 = .ok (.aload_n 0, 1) := by decide +kernel
theorem dX9_which_5 : decode cX9_which 5 = .ok (.invokevirtual 133, 3) := by decide +kernel
theorem dX9_which_8 : decode cX9_which 8 = .ok (.ifCond .ne 5, 3) := by decide +kernel
theorem dX9_which_11 : decode cX9_which 11 = .ok (.iconst (-1), 1) := by decide +kernel
theorem dX9_which_12 : decode cX9_which 12 = .ok (.ireturn, 1) := by decide +kernel
theorem dX9_which_13 : decode cX9_which 13 = .ok (.aload_n 0, 1) := by decide +kernel
theorem dX9_which_14 : decode cX9_which 14 = .ok (.invokevirtual 188, 3) := by decide +kernel
theorem dX9_which_17 : decode cX9_which 17 = .ok (.aload_n 0, 1) := by decide +kernel
theorem dX9_which_18 : decode cX9_which 18 = .ok (.invokevirtual 154, 3) := by decide +kernel
theorem dX9_which_21 : decode cX9_which 21 = .ok (.iconst 0, 1) := by decide +kernel
theorem dX9_which_22 : decode cX9_which 22 = .ok (.istore_n 1, 1) := by decide +kernel
theorem dX9_which_23 : decode cX9_which 23 = .ok (.aload_n 0, 1) := by decide +kernel
theorem dX9_which_24 : decode cX9_which 24 = .ok (.invokevirtual 157, 3) := by decide +kernel
theorem dX9_which_27 : decode cX9_which 27 = .ok (.ifCond .eq 76, 3) := by decide +kernel
theorem dX9_which_30 : decode cX9_which 30 = .ok (.aload_n 0, 1) := by decide +kernel
theorem dX9_which_31 : decode cX9_which 31 = .ok (.getfield 130, 3) := by decide +kernel
theorem dX9_which_34 : decode cX9_which 34 = .ok (.aload_n 0, 1) := by decide +kernel
theorem dX9_which_35 : decode cX9_which 35 = .ok (.getfield 7, 3) := by decide +kernel
theorem dX9_which_38 : decode cX9_which 38 = .ok (.bipush 43, 2) := by decide +kernel
theorem dX9_which_40 : decode cX9_which 40 = .ok (.iaload, 1) := by decide +kernel
theorem dX9_which_41 : decode cX9_which 41 = .ok (.if_icmp .ne 7, 3) := by decide +kernel
theorem dX9_which_44 : decode cX9_which 44 = .ok (.iconst 1, 1) := by decide +kernel
theorem dX9_which_45 : decode cX9_which 45 = .ok (.goto 4, 3) := by decide +kernel
theorem dX9_which_48 : decode cX9_which 48 = .ok (.iconst 0, 1) := by decide +kernel
theorem dX9_which_49 : decode cX9_which 49 = .ok (.istore_n 2, 1) := by decide +kernel
theorem dX9_which_50 : decode cX9_which 50 = .ok (.iconst 0, 1) := by decide +kernel
theorem dX9_which_51 : decode cX9_which 51 = .ok (.istore_n 3, 1) := by decide +kernel
theorem dX9_which_52 : decode cX9_which 52 = .ok (.iload_n 3, 1) := by decide +kernel
theorem dX9_which_53 : decode cX9_which 53 = .ok (.aload_n 0, 1) := by decide +kernel
theorem dX9_which_54 : decode cX9_which 54 = .ok (.getfield 130, 3) := by decide +kernel
theorem dX9_which_57 : decode cX9_which 57 = .ok (.if_icmp .ge 34, 3) := by decide +kernel
theorem dX9_which_60 : decode cX9_which 60 = .ok (.iload_n 2, 1) := by decide +kernel
theorem dX9_which_61 : decode cX9_which 61 = .ok (.ifCond .eq 30, 3) := by decide +kernel
theorem dX9_which_64 : decode cX9_which 64 = .ok (.aload_n 0, 1) := by decide +kernel
theorem dX9_which_65 : decode cX9_which 65 = .ok (.getfield 22, 3) := by decide +kernel
theorem dX9_which_68 : decode cX9_which 68 = .ok (.iload_n 3, 1) := by decide +kernel
theorem dX9_which_69 : decode cX9_which 69 = .ok (.iaload, 1) := by decide +kernel
theorem dX9_which_70 : decode cX9_which 70 = .ok (.aload_n 0, 1) := by decide +kernel
theorem dX9_which_71 : decode cX9_which 71 = .ok (.getfield 50, 3) := by decide +kernel
theorem dX9_which_74 : decode cX9_which 74 = .ok (.iload_n 3, 1) := by decide +kernel
theorem dX9_which_75 : decode cX9_which 75 = .ok (.iaload, 1) := by decide +kernel
theorem dX9_which_76 : decode cX9_which 76 = .ok (.if_icmp .ne 7, 3) := by decide +kernel
theorem dX9_which_79 : decode cX9_which 79 = .ok (.iconst 1, 1) := by decide +kernel
theorem dX9_which_80 : decode cX9_which 80 = .ok (.goto 4, 3) := by decide +kernel
theorem dX9_which_83 : decode cX9_which 83 = .ok (.iconst 0, 1) := by decide +kernel
theorem dX9_which_84 : decode cX9_which 84 = .ok (.istore_n 2, 1) := by decide +kernel
theorem dX9_which_85 : decode cX9_which 85 = .ok (.iinc 3 1, 3) := by decide +kernel
theorem dX9_which_88 : decode cX9_which 88 = .ok (.goto (-36), 3) := by decide +kernel
theorem dX9_which_91 : decode cX9_which 91 = .ok (.iload_n 2, 1) := by decide +kernel
theorem dX9_which_92 : decode cX9_which 92 = .ok (.ifCond .eq 5, 3) := by decide +kernel
theorem dX9_which_95 : decode cX9_which 95 = .ok (.iload_n 1, 1) := by decide +kernel
theorem dX9_which_96 : decode cX9_which 96 = .ok (.ireturn, 1) := by decide +kernel
theorem dX9_which_97 : decode cX9_which 97 = .ok (.iinc 1 1, 3) := by decide +kernel
theorem dX9_which_100 : decode cX9_which 100 = .ok (.goto (-77), 3) := by decide +kernel
theorem dX9_which_103 : decode cX9_which 103 = .ok (.iconst (-1), 1) := by decide +kernel
theorem dX9_which_104 : decode cX9_which 104 = .ok (.ireturn, 1) := by decide +kernel
set_option maxRecDepth 20000 in
theorem ggX9_type_X9_in : GoodIn wsX9_type wsX9_in := goodIn_r _ [7] (by decide +kernel) (by decide +kernel)
set_option maxRecDepth 20000 in
theorem gX9_type_X9_in : GoodIn wsX9_type (va_wsS RX9 65 yX9_in wsX9_in) := goodIn_app (goodIn_of _ (by decide +kernel)) ggX9_type_X9_in
set_option maxRecDepth 20000 in
theorem ggX9_type_X9_refuses : GoodIn wsX9_type wsX9_refuses := goodIn_r _ [11, 12, 13, 14, 15, 16, 17, 18, 19, 20, 21, 22, 23, 24, 25, 26, 27, 28, 29, 30, 31, 32, 33, 34] (by decide +kernel) (by decide +kernel)
set_option maxRecDepth 20000 in
theorem gX9_type_X9_refuses : GoodIn wsX9_type (wsV RX9 87 RX9 yX9_refuses wsX9_refuses) := goodIn_app (goodIn_of _ (by decide +kernel)) ggX9_type_X9_refuses
theorem dX9_type_0 : decode cX9_type 0 = .ok (.iload_n 1, 1) := by decide +kernel
theorem dX9_type_1 : decode cX9_type 1 = .ok (.i2l, 1) := by decide +kernel
theorem dX9_type_2 : decode cX9_type 2 = .ok (.lconst 0, 1) := by decide +kernel
theorem dX9_type_3 : decode cX9_type 3 = .ok (.ldc2_w 191, 3) := by decide +kernel
theorem dX9_type_6 : decode cX9_type 6 = .ok (.invokestatic 65, 3) := by decide +kernel
theorem dX9_type_9 : decode cX9_type 9 = .ok (.ifCond .ne 10, 3) := by decide +kernel
theorem dX9_type_12 : decode cX9_type 12 = .ok (.aload_n 0, 1) := by decide +kernel
theorem dX9_type_13 : decode cX9_type 13 = .ok (.bipush (-2), 2) := by decide +kernel
theorem dX9_type_15 : decode cX9_type 15 = .ok (.invokevirtual 87, 3) := by decide +kernel
theorem dX9_type_18 : decode cX9_type 18 = .ok (.ireturn, 1) := by decide +kernel
theorem dX9_type_19 : decode cX9_type 19 = .ok (.aload_n 0, 1) := by decide +kernel
theorem dX9_type_20 : decode cX9_type 20 = .ok (.getfield 193, 3) := by decide +kernel
theorem dX9_type_23 : decode cX9_type 23 = .ok (.bipush 120, 2) := by decide +kernel
theorem dX9_type_25 : decode cX9_type 25 = .ok (.if_icmp .ne 10, 3) := by decide +kernel
theorem dX9_type_28 : decode cX9_type 28 = .ok (.aload_n 0, 1) := by decide +kernel
theorem dX9_type_29 : decode cX9_type 29 = .ok (.bipush (-4), 2) := by decide +kernel
theorem dX9_type_31 : decode cX9_type 31 = .ok (.invokevirtual 87, 3) := by decide +kernel
theorem dX9_type_34 : decode cX9_type 34 = .ok (.ireturn, 1) := by decide +kernel
theorem dX9_type_35 : decode cX9_type 35 = .ok (.aload_n 0, 1) := by decide +kernel
theorem dX9_type_36 : decode cX9_type 36 = .ok (.getfield 53, 3) := by decide +kernel
theorem dX9_type_39 : decode cX9_type 39 = .ok (.aload_n 0, 1) := by decide +kernel
theorem dX9_type_40 : decode cX9_type 40 = .ok (.getfield 193, 3) := by decide +kernel
theorem dX9_type_43 : decode cX9_type 43 = .ok (.iload_n 1, 1) := by decide +kernel
theorem dX9_type_44 : decode cX9_type 44 = .ok (.iastore, 1) := by decide +kernel
theorem dX9_type_45 : decode cX9_type 45 = .ok (.aload_n 0, 1) := by decide +kernel
theorem dX9_type_46 : decode cX9_type 46 = .ok (.dup, 1) := by decide +kernel
theorem dX9_type_47 : decode cX9_type 47 = .ok (.getfield 193, 3) := by decide +kernel
theorem dX9_type_50 : decode cX9_type 50 = .ok (.iconst 1, 1) := by decide +kernel
theorem dX9_type_51 : decode cX9_type 51 = .ok (.iadd, 1) := by decide +kernel
theorem dX9_type_52 : decode cX9_type 52 = .ok (.putfield 193, 3) := by decide +kernel
theorem dX9_type_55 : decode cX9_type 55 = .ok (.aload_n 0, 1) := by decide +kernel
theorem dX9_type_56 : decode cX9_type 56 = .ok (.getfield 193, 3) := by decide +kernel
theorem dX9_type_59 : decode cX9_type 59 = .ok (.ireturn, 1) := by decide +kernel
theorem dX9_clear_0 : decode cX9_clear 0 = .ok (.aload_n 0, 1) := by decide +kernel
theorem dX9_clear_1 : decode cX9_clear 1 = .ok (.getfield 193, 3) := by decide +kernel
theorem dX9_clear_4 : decode cX9_clear 4 = .ok (.istore_n 1, 1) := by decide +kernel
theorem dX9_clear_5 : decode cX9_clear 5 = .ok (.aload_n 0, 1) := by decide +kernel
theorem dX9_clear_6 : decode cX9_clear 6 = .ok (.iconst 0, 1) := by decide +kernel
theorem dX9_clear_7 : decode cX9_clear 7 = .ok (.putfield 193, 3) := by decide +kernel
theorem dX9_clear_10 : decode cX9_clear 10 = .ok (.iload_n 1, 1) := by decide +kernel
theorem dX9_clear_11 : decode cX9_clear 11 = .ok (.ireturn, 1) := by decide +kernel
theorem dX9_here_0 : decode cX9_here 0 = .ok (.aload_n 0, 1) := by decide +kernel
theorem dX9_here_1 : decode cX9_here 1 = .ok (.getfield 196, 3) := by decide +kernel
theorem dX9_here_4 : decode cX9_here 4 = .ok (.aload_n 0, 1) := by decide +kernel
theorem dX9_here_5 : decode cX9_here 5 = .ok (.getfield 193, 3) := by decide +kernel
theorem dX9_here_8 : decode cX9_here 8 = .ok (.if_icmp .ge 30, 3) := by decide +kernel
theorem dX9_here_11 : decode cX9_here 11 = .ok (.aload_n 0, 1) := by decide +kernel
theorem dX9_here_12 : decode cX9_here 12 = .ok (.getfield 53, 3) := by decide +kernel
theorem dX9_here_15 : decode cX9_here 15 = .ok (.aload_n 0, 1) := by decide +kernel
theorem dX9_here_16 : decode cX9_here 16 = .ok (.getfield 196, 3) := by decide +kernel
theorem dX9_here_19 : decode cX9_here 19 = .ok (.iaload, 1) := by decide +kernel
theorem dX9_here_20 : decode cX9_here 20 = .ok (.bipush 32, 2) := by decide +kernel
theorem dX9_here_22 : decode cX9_here 22 = .ok (.if_icmp .ne 16, 3) := by decide +kernel
theorem dX9_here_25 : decode cX9_here 25 = .ok (.aload_n 0, 1) := by decide +kernel
theorem dX9_here_26 : decode cX9_here 26 = .ok (.dup, 1) := by decide +kernel
theorem dX9_here_27 : decode cX9_here 27 = .ok (.getfield 196, 3) := by decide +kernel
theorem dX9_here_30 : decode cX9_here 30 = .ok (.iconst 1, 1) := by decide +kernel
theorem dX9_here_31 : decode cX9_here 31 = .ok (.iadd, 1) := by decide +kernel
theorem dX9_here_32 : decode cX9_here 32 = .ok (.putfield 196, 3) := by decide +kernel
theorem dX9_here_35 : decode cX9_here 35 = .ok (.goto (-35), 3) := by decide +kernel
theorem dX9_here_38 : decode cX9_here 38 = .ok (.aload_n 0, 1) := by decide +kernel
theorem dX9_here_39 : decode cX9_here 39 = .ok (.getfield 196, 3) := by decide +kernel
theorem dX9_here_42 : decode cX9_here 42 = .ok (.aload_n 0, 1) := by decide +kernel
theorem dX9_here_43 : decode cX9_here 43 = .ok (.getfield 193, 3) := by decide +kernel
theorem dX9_here_46 : decode cX9_here 46 = .ok (.if_icmp .ge 15, 3) := by decide +kernel
theorem dX9_here_49 : decode cX9_here 49 = .ok (.aload_n 0, 1) := by decide +kernel
theorem dX9_here_50 : decode cX9_here 50 = .ok (.getfield 53, 3) := by decide +kernel
theorem dX9_here_53 : decode cX9_here 53 = .ok (.aload_n 0, 1) := by decide +kernel
theorem dX9_here_54 : decode cX9_here 54 = .ok (.getfield 196, 3) := by decide +kernel
theorem dX9_here_57 : decode cX9_here 57 = .ok (.iaload, 1) := by decide +kernel
theorem dX9_here_58 : decode cX9_here 58 = .ok (.goto 4, 3) := by decide +kernel
theorem dX9_here_61 : decode cX9_here 61 = .ok (.iconst (-1), 1) := by decide +kernel
theorem dX9_here_62 : decode cX9_here 62 = .ok (.ireturn, 1) := by decide +kernel
set_option maxRecDepth 20000 in
theorem ggX9_takes_X9_here : GoodIn wsX9_takes wsX9_here := goodIn_r _ [7, 2, 8, 9, 13, 14, 15, 16, 17, 18, 19, 20, 21, 22, 23, 24, 25, 26, 27, 28, 29, 30, 31, 32, 33, 34] (by decide +kernel) (by decide +kernel)
set_option maxRecDepth 20000 in
theorem gX9_takes_X9_here : GoodIn wsX9_takes (wsV RX9 199 RX9 yX9_here wsX9_here) := goodIn_app (goodIn_of _ (by decide +kernel)) ggX9_takes_X9_here
set_option maxRecDepth 20000 in
theorem ggX9_takes_X9_in : GoodIn wsX9_takes wsX9_in := goodIn_r _ [12] (by decide +kernel) (by decide +kernel)
set_option maxRecDepth 20000 in
theorem gX9_takes_X9_in : GoodIn wsX9_takes (va_wsS RX9 65 yX9_in wsX9_in) := goodIn_app (goodIn_of _ (by decide +kernel)) ggX9_takes_X9_in
theorem dX9_takes_0 : decode cX9_takes 0 = .ok (.aload_n 0, 1) := by decide +kernel
theorem dX9_takes_1 : decode cX9_takes 1 = .ok (.invokevirtual 199, 3) := by decide +kernel
theorem dX9_takes_4 : decode cX9_takes 4 = .ok (.istore_n 3, 1) := by decide +kernel
theorem dX9_takes_5 : decode cX9_takes 5 = .ok (.iload_n 3, 1) := by decide +kernel
theorem dX9_takes_6 : decode cX9_takes 6 = .ok (.i2l, 1) := by decide +kernel
theorem dX9_takes_7 : decode cX9_takes 7 = .ok (.iload_n 1, 1) := by decide +kernel
theorem dX9_takes_8 : decode cX9_takes 8 = .ok (.i2l, 1) := by decide +kernel
theorem dX9_takes_9 : decode cX9_takes 9 = .ok (.iload_n 2, 1) := by decide +kernel
theorem dX9_takes_10 : decode cX9_takes 10 = .ok (.i2l, 1) := by decide +kernel
theorem dX9_takes_11 : decode cX9_takes 11 = .ok (.invokestatic 65, 3) := by decide +kernel
theorem dX9_takes_14 : decode cX9_takes 14 = .ok (.ifCond .ne 5, 3) := by decide +kernel
theorem dX9_takes_17 : decode cX9_takes 17 = .ok (.iconst 0, 1) := by decide +kernel
theorem dX9_takes_18 : decode cX9_takes 18 = .ok (.ireturn, 1) := by decide +kernel
theorem dX9_takes_19 : decode cX9_takes 19 = .ok (.aload_n 0, 1) := by decide +kernel
theorem dX9_takes_20 : decode cX9_takes 20 = .ok (.iload_n 3, 1) := by decide +kernel
theorem dX9_takes_21 : decode cX9_takes 21 = .ok (.iload_n 1, 1) := by decide +kernel
theorem dX9_takes_22 : decode cX9_takes 22 = .ok (.isub, 1) := by decide +kernel
theorem dX9_takes_23 : decode cX9_takes 23 = .ok (.putfield 202, 3) := by decide +kernel
theorem dX9_takes_26 : decode cX9_takes 26 = .ok (.aload_n 0, 1) := by decide +kernel
theorem dX9_takes_27 : decode cX9_takes 27 = .ok (.dup, 1) := by decide +kernel
theorem dX9_takes_28 : decode cX9_takes 28 = .ok (.getfield 196, 3) := by decide +kernel
theorem dX9_takes_31 : decode cX9_takes 31 = .ok (.iconst 1, 1) := by decide +kernel
theorem dX9_takes_32 : decode cX9_takes 32 = .ok (.iadd, 1) := by decide +kernel
theorem dX9_takes_33 : decode cX9_takes 33 = .ok (.putfield 196, 3) := by decide +kernel
theorem dX9_takes_36 : decode cX9_takes 36 = .ok (.iconst 1, 1) := by decide +kernel
theorem dX9_takes_37 : decode cX9_takes 37 = .ok (.ireturn, 1) := by decide +kernel
set_option maxRecDepth 20000 in
theorem ggX9_takesStep_X9_here : GoodIn wsX9_takesStep wsX9_here := goodIn_r _ [8, 2, 9, 10, 31, 32, 33, 34, 35, 36, 37, 38, 39, 40, 41, 42, 43, 44, 45, 46, 47, 48, 49, 50, 51, 52] (by decide +kernel) (by decide +kernel)
set_option maxRecDepth 20000 in
theorem gX9_takesStep_X9_here : GoodIn wsX9_takesStep (wsV RX9 199 RX9 yX9_here wsX9_here) := goodIn_app (goodIn_of _ (by decide +kernel)) ggX9_takesStep_X9_here
set_option maxRecDepth 20000 in
theorem ggX9_takesStep_X9_isThread : GoodIn wsX9_takesStep wsX9_isThread := goodIn_r _ [13, 14, 15, 16, 7, 17] (by decide +kernel) (by decide +kernel)
set_option maxRecDepth 20000 in
theorem gX9_takesStep_X9_isThread : GoodIn wsX9_takesStep (va_wsS RX9 79 yX9_isThread wsX9_isThread) := goodIn_app (goodIn_of _ (by decide +kernel)) ggX9_takesStep_X9_isThread
set_option maxRecDepth 20000 in
theorem ggX9_takesStep_X9_takes : GoodIn wsX9_takesStep wsX9_takes := goodIn_r _ [21, 3, 2, 4, 5, 6, 7, 8, 9, 10, 15, 16, 17, 31, 32, 33, 34, 35, 36, 37, 38, 39, 40, 41, 42, 43, 44, 45, 46, 47, 48, 49, 50, 51, 52] (by decide +kernel) (by decide +kernel)
set_option maxRecDepth 20000 in
theorem gX9_takesStep_X9_takes : GoodIn wsX9_takesStep (wsV RX9 205 RX9 yX9_takes wsX9_takes) := goodIn_app (goodIn_of _ (by decide +kernel)) ggX9_takesStep_X9_takes
set_option maxRecDepth 20000 in
theorem ggX9_takesStep_X9_lays : GoodIn wsX9_takesStep wsX9_lays := goodIn_r _ [25, 26, 27, 28, 29, 7, 30, 31, 32, 33, 34, 35, 36, 37, 38, 39, 40, 41, 42, 43, 44, 45, 46, 47, 48, 49, 50, 51, 52] (by decide +kernel) (by decide +kernel)
set_option maxRecDepth 20000 in
theorem gX9_takesStep_X9_lays : GoodIn wsX9_takesStep (wsV RX9 93 RX9 yX9_lays wsX9_lays) := goodIn_app (goodIn_of _ (by decide +kernel)) ggX9_takesStep_X9_lays
theorem dX9_takesStep_0 : decode cX9_takesStep 0 = .ok (.aload_n 0, 1) := by decide +kernel
theorem dX9_takesStep_1 : decode cX9_takesStep 1 = .ok (.invokevirtual 199, 3) := by decide +kernel
theorem dX9_takesStep_4 : decode cX9_takesStep 4 = .ok (.istore_n 2, 1) := by decide +kernel
theorem dX9_takesStep_5 : decode cX9_takesStep 5 = .ok (.iload_n 2, 1) := by decide +kernel
theorem dX9_takesStep_6 : decode cX9_takesStep 6 = .ok (.bipush 48, 2) := by decide +kernel
theorem dX9_takesStep_8 : decode cX9_takesStep 8 = .ok (.isub, 1) := by decide +kernel
theorem dX9_takesStep_9 : decode cX9_takesStep 9 = .ok (.istore_n 3, 1) := by decide +kernel
theorem dX9_takesStep_10 : decode cX9_takesStep 10 = .ok (.iload_n 3, 1) := by decide +kernel
theorem dX9_takesStep_11 : decode cX9_takesStep 11 = .ok (.invokestatic 79, 3) := by decide +kernel
theorem dX9_takesStep_14 : decode cX9_takesStep 14 = .ok (.ifCond .eq 13, 3) := by decide +kernel
theorem dX9_takesStep_17 : decode cX9_takesStep 17 = .ok (.aload_n 0, 1) := by decide +kernel
theorem dX9_takesStep_18 : decode cX9_takesStep 18 = .ok (.getfield 56, 3) := by decide +kernel
theorem dX9_takesStep_21 : decode cX9_takesStep 21 = .ok (.iload_n 3, 1) := by decide +kernel
theorem dX9_takesStep_22 : decode cX9_takesStep 22 = .ok (.iaload, 1) := by decide +kernel
theorem dX9_takesStep_23 : decode cX9_takesStep 23 = .ok (.iconst 4, 1) := by decide +kernel
theorem dX9_takesStep_24 : decode cX9_takesStep 24 = .ok (.if_icmp .ne 5, 3) := by decide +kernel
theorem dX9_takesStep_27 : decode cX9_takesStep 27 = .ok (.iconst 0, 1) := by decide +kernel
theorem dX9_takesStep_28 : decode cX9_takesStep 28 = .ok (.ireturn, 1) := by decide +kernel
theorem dX9_takesStep_29 : decode cX9_takesStep 29 = .ok (.aload_n 0, 1) := by decide +kernel
theorem dX9_takesStep_30 : decode cX9_takesStep 30 = .ok (.dup, 1) := by decide +kernel
theorem dX9_takesStep_31 : decode cX9_takesStep 31 = .ok (.getfield 196, 3) := by decide +kernel
theorem dX9_takesStep_34 : decode cX9_takesStep 34 = .ok (.iconst 1, 1) := by decide +kernel
theorem dX9_takesStep_35 : decode cX9_takesStep 35 = .ok (.iadd, 1) := by decide +kernel
theorem dX9_takesStep_36 : decode cX9_takesStep 36 = .ok (.putfield 196, 3) := by decide +kernel
theorem dX9_takesStep_39 : decode cX9_takesStep 39 = .ok (.aload_n 0, 1) := by decide +kernel
theorem dX9_takesStep_40 : decode cX9_takesStep 40 = .ok (.invokevirtual 199, 3) := by decide +kernel
theorem dX9_takesStep_43 : decode cX9_takesStep 43 = .ok (.istore 4, 2) := by decide +kernel
theorem dX9_takesStep_45 : decode cX9_takesStep 45 = .ok (.iload 4, 2) := by decide +kernel
theorem dX9_takesStep_47 : decode cX9_takesStep 47 = .ok (.bipush 119, 2) := by decide +kernel
theorem dX9_takesStep_49 : decode cX9_takesStep 49 = .ok (.if_icmp .ne 7, 3) := by decide +kernel
theorem dX9_takesStep_52 : decode cX9_takesStep 52 = .ok (.iconst 0, 1) := by decide +kernel
theorem dX9_takesStep_53 : decode cX9_takesStep 53 = .ok (.goto 59, 3) := by decide +kernel
theorem dX9_takesStep_56 : decode cX9_takesStep 56 = .ok (.iload 4, 2) := by decide +kernel
theorem dX9_takesStep_58 : decode cX9_takesStep 58 = .ok (.bipush 97, 2) := by decide +kernel
theorem dX9_takesStep_60 : decode cX9_takesStep 60 = .ok (.if_icmp .ne 7, 3) := by decide +kernel
theorem dX9_takesStep_63 : decode cX9_takesStep 63 = .ok (.iconst 1, 1) := by decide +kernel
theorem dX9_takesStep_64 : decode cX9_takesStep 64 = .ok (.goto 48, 3) := by decide +kernel
theorem dX9_takesStep_67 : decode cX9_takesStep 67 = .ok (.iload 4, 2) := by decide +kernel
theorem dX9_takesStep_69 : decode cX9_takesStep 69 = .ok (.bipush 99, 2) := by decide +kernel
theorem dX9_takesStep_71 : decode cX9_takesStep 71 = .ok (.if_icmp .ne 7, 3) := by decide +kernel
theorem dX9_takesStep_74 : decode cX9_takesStep 74 = .ok (.iconst 2, 1) := by decide +kernel
theorem dX9_takesStep_75 : decode cX9_takesStep 75 = .ok (.goto 37, 3) := by decide +kernel
theorem dX9_takesStep_78 : decode cX9_takesStep 78 = .ok (.iload 4, 2) := by decide +kernel
theorem dX9_takesStep_80 : decode cX9_takesStep 80 = .ok (.bipush 107, 2) := by decide +kernel
theorem dX9_takesStep_82 : decode cX9_takesStep 82 = .ok (.if_icmp .ne 7, 3) := by decide +kernel
theorem dX9_takesStep_85 : decode cX9_takesStep 85 = .ok (.iconst 3, 1) := by decide +kernel
theorem dX9_takesStep_86 : decode cX9_takesStep 86 = .ok (.goto 26, 3) := by decide +kernel
theorem dX9_takesStep_89 : decode cX9_takesStep 89 = .ok (.iload 4, 2) := by decide +kernel
theorem dX9_takesStep_91 : decode cX9_takesStep 91 = .ok (.bipush 108, 2) := by decide +kernel
theorem dX9_takesStep_93 : decode cX9_takesStep 93 = .ok (.if_icmp .ne 7, 3) := by decide +kernel
theorem dX9_takesStep_96 : decode cX9_takesStep 96 = .ok (.iconst 4, 1) := by decide +kernel
theorem dX9_takesStep_97 : decode cX9_takesStep 97 = .ok (.goto 15, 3) := by decide +kernel
theorem dX9_takesStep_100 : decode cX9_takesStep 100 = .ok (.iload 4, 2) := by decide +kernel
theorem dX9_takesStep_102 : decode cX9_takesStep 102 = .ok (.bipush 102, 2) := by decide +kernel
theorem dX9_takesStep_104 : decode cX9_takesStep 104 = .ok (.if_icmp .ne 7, 3) := by decide +kernel
theorem dX9_takesStep_107 : decode cX9_takesStep 107 = .ok (.iconst 5, 1) := by decide +kernel
theorem dX9_takesStep_108 : decode cX9_takesStep 108 = .ok (.goto 4, 3) := by decide +kernel
theorem dX9_takesStep_111 : decode cX9_takesStep 111 = .ok (.iconst (-1), 1) := by decide +kernel
theorem dX9_takesStep_112 : decode cX9_takesStep 112 = .ok (.istore 5, 2) := by decide +kernel
theorem dX9_takesStep_114 : decode cX9_takesStep 114 = .ok (.iload 5, 2) := by decide +kernel
theorem dX9_takesStep_116 : decode cX9_takesStep 116 = .ok (.iconst (-1), 1) := by decide +kernel
theorem dX9_takesStep_117 : decode cX9_takesStep 117 = .ok (.if_icmp .ne 5, 3) := by decide +kernel
theorem dX9_takesStep_120 : decode cX9_takesStep 120 = .ok (.iconst 0, 1) := by decide +kernel
theorem dX9_takesStep_121 : decode cX9_takesStep 121 = .ok (.ireturn, 1) := by decide +kernel
theorem dX9_takesStep_122 : decode cX9_takesStep 122 = .ok (.aload_n 0, 1) := by decide +kernel
theorem dX9_takesStep_123 : decode cX9_takesStep 123 = .ok (.dup, 1) := by decide +kernel
theorem dX9_takesStep_124 : decode cX9_takesStep 124 = .ok (.getfield 196, 3) := by decide +kernel
theorem dX9_takesStep_127 : decode cX9_takesStep 127 = .ok (.iconst 1, 1) := by decide +kernel
theorem dX9_takesStep_128 : decode cX9_takesStep 128 = .ok (.iadd, 1) := by decide +kernel
theorem dX9_takesStep_129 : decode cX9_takesStep 129 = .ok (.putfield 196, 3) := by decide +kernel
theorem dX9_takesStep_132 : decode cX9_takesStep 132 = .ok (.iload 5, 2) := by decide +kernel
theorem dX9_takesStep_134 : decode cX9_takesStep 134 = .ok (.iconst 4, 1) := by decide +kernel
theorem dX9_takesStep_135 : decode cX9_takesStep 135 = .ok (.if_icmp .lt 7, 3) := by decide +kernel
theorem dX9_takesStep_138 : decode cX9_takesStep 138 = .ok (.iconst 1, 1) := by decide +kernel
theorem dX9_takesStep_139 : decode cX9_takesStep 139 = .ok (.goto 4, 3) := by decide +kernel
theorem dX9_takesStep_142 : decode cX9_takesStep 142 = .ok (.iconst 0, 1) := by decide +kernel
theorem dX9_takesStep_143 : decode cX9_takesStep 143 = .ok (.istore 6, 2) := by decide +kernel
theorem dX9_takesStep_145 : decode cX9_takesStep 145 = .ok (.aload_n 0, 1) := by decide +kernel
theorem dX9_takesStep_146 : decode cX9_takesStep 146 = .ok (.iload 6, 2) := by decide +kernel
theorem dX9_takesStep_148 : decode cX9_takesStep 148 = .ok (.ifCond .eq 8, 3) := by decide +kernel
theorem dX9_takesStep_151 : decode cX9_takesStep 151 = .ok (.bipush 48, 2) := by decide +kernel
theorem dX9_takesStep_153 : decode cX9_takesStep 153 = .ok (.goto 5, 3) := by decide +kernel
theorem dX9_takesStep_156 : decode cX9_takesStep 156 = .ok (.bipush 97, 2) := by decide +kernel
theorem dX9_takesStep_158 : decode cX9_takesStep 158 = .ok (.iload 6, 2) := by decide +kernel
theorem dX9_takesStep_160 : decode cX9_takesStep 160 = .ok (.ifCond .eq 8, 3) := by decide +kernel
theorem dX9_takesStep_163 : decode cX9_takesStep 163 = .ok (.bipush 49, 2) := by decide +kernel
theorem dX9_takesStep_165 : decode cX9_takesStep 165 = .ok (.goto 5, 3) := by decide +kernel
theorem dX9_takesStep_168 : decode cX9_takesStep 168 = .ok (.bipush 100, 2) := by decide +kernel
theorem dX9_takesStep_170 : decode cX9_takesStep 170 = .ok (.invokevirtual 205, 3) := by decide +kernel
theorem dX9_takesStep_173 : decode cX9_takesStep 173 = .ok (.ifCond .ne 5, 3) := by decide +kernel
theorem dX9_takesStep_176 : decode cX9_takesStep 176 = .ok (.iconst 0, 1) := by decide +kernel
theorem dX9_takesStep_177 : decode cX9_takesStep 177 = .ok (.ireturn, 1) := by decide +kernel
theorem dX9_takesStep_178 : decode cX9_takesStep 178 = .ok (.aload_n 0, 1) := by decide +kernel
theorem dX9_takesStep_179 : decode cX9_takesStep 179 = .ok (.getfield 202, 3) := by decide +kernel
theorem dX9_takesStep_182 : decode cX9_takesStep 182 = .ok (.istore 7, 2) := by decide +kernel
theorem dX9_takesStep_184 : decode cX9_takesStep 184 = .ok (.aload_n 0, 1) := by decide +kernel
theorem dX9_takesStep_185 : decode cX9_takesStep 185 = .ok (.iconst 0, 1) := by decide +kernel
theorem dX9_takesStep_186 : decode cX9_takesStep 186 = .ok (.putfield 202, 3) := by decide +kernel
theorem dX9_takesStep_189 : decode cX9_takesStep 189 = .ok (.iload 6, 2) := by decide +kernel
theorem dX9_takesStep_191 : decode cX9_takesStep 191 = .ok (.ifCond .ne 38, 3) := by decide +kernel
theorem dX9_takesStep_194 : decode cX9_takesStep 194 = .ok (.aload_n 0, 1) := by decide +kernel
theorem dX9_takesStep_195 : decode cX9_takesStep 195 = .ok (.iload 5, 2) := by decide +kernel
theorem dX9_takesStep_197 : decode cX9_takesStep 197 = .ok (.iconst 2, 1) := by decide +kernel
theorem dX9_takesStep_198 : decode cX9_takesStep 198 = .ok (.if_icmp .ne 8, 3) := by decide +kernel
theorem dX9_takesStep_201 : decode cX9_takesStep 201 = .ok (.bipush 97, 2) := by decide +kernel
theorem dX9_takesStep_203 : decode cX9_takesStep 203 = .ok (.goto 5, 3) := by decide +kernel
theorem dX9_takesStep_206 : decode cX9_takesStep 206 = .ok (.bipush 48, 2) := by decide +kernel
theorem dX9_takesStep_208 : decode cX9_takesStep 208 = .ok (.iload 5, 2) := by decide +kernel
theorem dX9_takesStep_210 : decode cX9_takesStep 210 = .ok (.iconst 2, 1) := by decide +kernel
theorem dX9_takesStep_211 : decode cX9_takesStep 211 = .ok (.if_icmp .ne 8, 3) := by decide +kernel
theorem dX9_takesStep_214 : decode cX9_takesStep 214 = .ok (.bipush 100, 2) := by decide +kernel
theorem dX9_takesStep_216 : decode cX9_takesStep 216 = .ok (.goto 5, 3) := by decide +kernel
theorem dX9_takesStep_219 : decode cX9_takesStep 219 = .ok (.bipush 57, 2) := by decide +kernel
theorem dX9_takesStep_221 : decode cX9_takesStep 221 = .ok (.invokevirtual 205, 3) := by decide +kernel
theorem dX9_takesStep_224 : decode cX9_takesStep 224 = .ok (.ifCond .ne 5, 3) := by decide +kernel
theorem dX9_takesStep_227 : decode cX9_takesStep 227 = .ok (.iconst 0, 1) := by decide +kernel
theorem dX9_takesStep_228 : decode cX9_takesStep 228 = .ok (.ireturn, 1) := by decide +kernel
theorem dX9_takesStep_229 : decode cX9_takesStep 229 = .ok (.aload_n 0, 1) := by decide +kernel
theorem dX9_takesStep_230 : decode cX9_takesStep 230 = .ok (.getfield 202, 3) := by decide +kernel
theorem dX9_takesStep_233 : decode cX9_takesStep 233 = .ok (.istore 8, 2) := by decide +kernel
theorem dX9_takesStep_235 : decode cX9_takesStep 235 = .ok (.aload_n 0, 1) := by decide +kernel
theorem dX9_takesStep_236 : decode cX9_takesStep 236 = .ok (.invokevirtual 199, 3) := by decide +kernel
theorem dX9_takesStep_239 : decode cX9_takesStep 239 = .ok (.bipush 59, 2) := by decide +kernel
theorem dX9_takesStep_241 : decode cX9_takesStep 241 = .ok (.if_icmp .eq 5, 3) := by decide +kernel
theorem dX9_takesStep_244 : decode cX9_takesStep 244 = .ok (.iconst 0, 1) := by decide +kernel
theorem dX9_takesStep_245 : decode cX9_takesStep 245 = .ok (.ireturn, 1) := by decide +kernel
theorem dX9_takesStep_246 : decode cX9_takesStep 246 = .ok (.aload_n 0, 1) := by decide +kernel
theorem dX9_takesStep_247 : decode cX9_takesStep 247 = .ok (.dup, 1) := by decide +kernel
theorem dX9_takesStep_248 : decode cX9_takesStep 248 = .ok (.getfield 196, 3) := by decide +kernel
theorem dX9_takesStep_251 : decode cX9_takesStep 251 = .ok (.iconst 1, 1) := by decide +kernel
theorem dX9_takesStep_252 : decode cX9_takesStep 252 = .ok (.iadd, 1) := by decide +kernel
theorem dX9_takesStep_253 : decode cX9_takesStep 253 = .ok (.putfield 196, 3) := by decide +kernel
theorem dX9_takesStep_256 : decode cX9_takesStep 256 = .ok (.aload_n 0, 1) := by decide +kernel
theorem dX9_takesStep_257 : decode cX9_takesStep 257 = .ok (.getfield 56, 3) := by decide +kernel
theorem dX9_takesStep_260 : decode cX9_takesStep 260 = .ok (.iload_n 3, 1) := by decide +kernel
theorem dX9_takesStep_261 : decode cX9_takesStep 261 = .ok (.dup2, 1) := by decide +kernel
theorem dX9_takesStep_262 : decode cX9_takesStep 262 = .ok (.iaload, 1) := by decide +kernel
theorem dX9_takesStep_263 : decode cX9_takesStep 263 = .ok (.iconst 1, 1) := by decide +kernel
theorem dX9_takesStep_264 : decode cX9_takesStep 264 = .ok (.iadd, 1) := by decide +kernel
theorem dX9_takesStep_265 : decode cX9_takesStep 265 = .ok (.iastore, 1) := by decide +kernel
theorem dX9_takesStep_266 : decode cX9_takesStep 266 = .ok (.iload_n 1, 1) := by decide +kernel
theorem dX9_takesStep_267 : decode cX9_takesStep 267 = .ok (.ifCond .eq 14, 3) := by decide +kernel
theorem dX9_takesStep_270 : decode cX9_takesStep 270 = .ok (.aload_n 0, 1) := by decide +kernel
theorem dX9_takesStep_271 : decode cX9_takesStep 271 = .ok (.iload_n 3, 1) := by decide +kernel
theorem dX9_takesStep_272 : decode cX9_takesStep 272 = .ok (.iload 5, 2) := by decide +kernel
theorem dX9_takesStep_274 : decode cX9_takesStep 274 = .ok (.iload 7, 2) := by decide +kernel
theorem dX9_takesStep_276 : decode cX9_takesStep 276 = .ok (.iload 8, 2) := by decide +kernel
theorem dX9_takesStep_278 : decode cX9_takesStep 278 = .ok (.invokevirtual 93, 3) := by decide +kernel
theorem dX9_takesStep_281 : decode cX9_takesStep 281 = .ok (.iconst 1, 1) := by decide +kernel
theorem dX9_takesStep_282 : decode cX9_takesStep 282 = .ok (.ireturn, 1) := by decide +kernel
set_option maxRecDepth 20000 in
theorem ggX9_counts_X9_many : GoodIn wsX9_counts wsX9_many := goodIn_r _ [6, 7, 8, 9, 10, 11, 12, 13, 14, 15, 16, 17, 18, 19, 20, 21, 22, 23, 24, 25, 26, 27, 28, 29] (by decide +kernel) (by decide +kernel)
set_option maxRecDepth 20000 in
theorem gX9_counts_X9_many : GoodIn wsX9_counts (wsV RX9 73 RX9 yX9_many wsX9_many) := goodIn_app (goodIn_of _ (by decide +kernel)) ggX9_counts_X9_many
theorem dX9_counts_0 : decode cX9_counts 0 = .ok (.iconst 0, 1) := by decide +kernel
theorem dX9_counts_1 : decode cX9_counts 1 = .ok (.istore_n 1, 1) := by decide +kernel
theorem dX9_counts_2 : decode cX9_counts 2 = .ok (.iload_n 1, 1) := by decide +kernel
theorem dX9_counts_3 : decode cX9_counts 3 = .ok (.iconst 3, 1) := by decide +kernel
theorem dX9_counts_4 : decode cX9_counts 4 = .ok (.if_icmp .ge 20, 3) := by decide +kernel
theorem dX9_counts_7 : decode cX9_counts 7 = .ok (.aload_n 0, 1) := by decide +kernel
theorem dX9_counts_8 : decode cX9_counts 8 = .ok (.getfield 56, 3) := by decide +kernel
theorem dX9_counts_11 : decode cX9_counts 11 = .ok (.iload_n 1, 1) := by decide +kernel
theorem dX9_counts_12 : decode cX9_counts 12 = .ok (.aload_n 0, 1) := by decide +kernel
theorem dX9_counts_13 : decode cX9_counts 13 = .ok (.iload_n 1, 1) := by decide +kernel
theorem dX9_counts_14 : decode cX9_counts 14 = .ok (.invokevirtual 73, 3) := by decide +kernel
theorem dX9_counts_17 : decode cX9_counts 17 = .ok (.iastore, 1) := by decide +kernel
theorem dX9_counts_18 : decode cX9_counts 18 = .ok (.iinc 1 1, 3) := by decide +kernel
theorem dX9_counts_21 : decode cX9_counts 21 = .ok (.goto (-19), 3) := by decide +kernel
theorem dX9_counts_24 : decode cX9_counts 24 = .ok (.return_, 1) := by decide +kernel
set_option maxRecDepth 20000 in
theorem ggX9_reads_X9_counts : GoodIn wsX9_reads wsX9_counts := goodIn_r _ [6, 7, 8, 9, 10, 5, 11, 12, 45, 46, 47, 48, 49, 50, 51, 52, 53, 54, 55, 56, 57, 58, 59, 60, 61, 62, 63, 64, 65, 66] (by decide +kernel) (by decide +kernel)
set_option maxRecDepth 20000 in
theorem gX9_reads_X9_counts : GoodIn wsX9_reads (wsV RX9 208 RX9 yX9_counts wsX9_counts) := goodIn_app (goodIn_of _ (by decide +kernel)) ggX9_reads_X9_counts
set_option maxRecDepth 20000 in
theorem ggX9_reads_X9_takesStep : GoodIn wsX9_reads wsX9_takesStep := goodIn_r _ [16, 7, 1, 17, 18, 19, 20, 5, 21, 22, 23, 24, 25, 26, 27, 28, 29, 30, 31, 32, 33, 34, 35, 36, 37, 38, 12, 8, 9, 10, 11, 45, 46, 47, 48, 49, 50, 51, 52, 53, 54, 55, 56, 57, 58, 59, 60, 61, 62, 63, 64, 65, 66] (by decide +kernel) (by decide +kernel)
set_option maxRecDepth 20000 in
theorem gX9_reads_X9_takesStep : GoodIn wsX9_reads (wsV RX9 211 RX9 yX9_takesStep wsX9_takesStep) := goodIn_app (goodIn_of _ (by decide +kernel)) ggX9_reads_X9_takesStep
set_option maxRecDepth 20000 in
theorem ggX9_reads_X9_here : GoodIn wsX9_reads wsX9_here := goodIn_r _ [21, 1, 22, 23, 45, 46, 47, 48, 49, 50, 51, 52, 53, 54, 55, 56, 57, 58, 59, 60, 61, 62, 63, 64, 65, 66] (by decide +kernel) (by decide +kernel)
set_option maxRecDepth 20000 in
theorem gX9_reads_X9_here : GoodIn wsX9_reads (wsV RX9 199 RX9 yX9_here wsX9_here) := goodIn_app (goodIn_of _ (by decide +kernel)) ggX9_reads_X9_here
set_option maxRecDepth 20000 in
theorem ggX9_reads_X9_keep : GoodIn wsX9_reads wsX9_keep := goodIn_r _ [42, 43, 44, 12, 45, 46, 47, 48, 49, 50, 51, 52, 53, 54, 55, 56, 57, 58, 59, 60, 61, 62, 63, 64, 65, 66] (by decide +kernel) (by decide +kernel)
set_option maxRecDepth 20000 in
theorem gX9_reads_X9_keep : GoodIn wsX9_reads (wsV RX9 90 RX9 yX9_keep wsX9_keep) := goodIn_app (goodIn_of _ (by decide +kernel)) ggX9_reads_X9_keep
theorem dX9_reads_0 : decode cX9_reads 0 = .ok (.aload_n 0, 1) := by decide +kernel
theorem dX9_reads_1 : decode cX9_reads 1 = .ok (.iconst 0, 1) := by decide +kernel
theorem dX9_reads_2 : decode cX9_reads 2 = .ok (.putfield 196, 3) := by decide +kernel
theorem dX9_reads_5 : decode cX9_reads 5 = .ok (.aload_n 0, 1) := by decide +kernel
theorem dX9_reads_6 : decode cX9_reads 6 = .ok (.invokevirtual 208, 3) := by decide +kernel
theorem dX9_reads_9 : decode cX9_reads 9 = .ok (.iconst 0, 1) := by decide +kernel
theorem dX9_reads_10 : decode cX9_reads 10 = .ok (.istore_n 1, 1) := by decide +kernel
theorem dX9_reads_11 : decode cX9_reads 11 = .ok (.aload_n 0, 1) := by decide +kernel
theorem dX9_reads_12 : decode cX9_reads 12 = .ok (.iconst 0, 1) := by decide +kernel
theorem dX9_reads_13 : decode cX9_reads 13 = .ok (.invokevirtual 211, 3) := by decide +kernel
theorem dX9_reads_16 : decode cX9_reads 16 = .ok (.ifCond .ne 11, 3) := by decide +kernel
theorem dX9_reads_19 : decode cX9_reads 19 = .ok (.bipush (-10), 2) := by decide +kernel
theorem dX9_reads_21 : decode cX9_reads 21 = .ok (.aload_n 0, 1) := by decide +kernel
theorem dX9_reads_22 : decode cX9_reads 22 = .ok (.getfield 196, 3) := by decide +kernel
theorem dX9_reads_25 : decode cX9_reads 25 = .ok (.isub, 1) := by decide +kernel
theorem dX9_reads_26 : decode cX9_reads 26 = .ok (.ireturn, 1) := by decide +kernel
theorem dX9_reads_27 : decode cX9_reads 27 = .ok (.iinc 1 1, 3) := by decide +kernel
theorem dX9_reads_30 : decode cX9_reads 30 = .ok (.aload_n 0, 1) := by decide +kernel
theorem dX9_reads_31 : decode cX9_reads 31 = .ok (.invokevirtual 199, 3) := by decide +kernel
theorem dX9_reads_34 : decode cX9_reads 34 = .ok (.iconst (-1), 1) := by decide +kernel
theorem dX9_reads_35 : decode cX9_reads 35 = .ok (.if_icmp .ne (-24), 3) := by decide +kernel
theorem dX9_reads_38 : decode cX9_reads 38 = .ok (.aload_n 0, 1) := by decide +kernel
theorem dX9_reads_39 : decode cX9_reads 39 = .ok (.invokevirtual 90, 3) := by decide +kernel
theorem dX9_reads_42 : decode cX9_reads 42 = .ok (.aload_n 0, 1) := by decide +kernel
theorem dX9_reads_43 : decode cX9_reads 43 = .ok (.iconst 0, 1) := by decide +kernel
theorem dX9_reads_44 : decode cX9_reads 44 = .ok (.putfield 196, 3) := by decide +kernel
theorem dX9_reads_47 : decode cX9_reads 47 = .ok (.aload_n 0, 1) := by decide +kernel
theorem dX9_reads_48 : decode cX9_reads 48 = .ok (.invokevirtual 208, 3) := by decide +kernel
theorem dX9_reads_51 : decode cX9_reads 51 = .ok (.iconst 0, 1) := by decide +kernel
theorem dX9_reads_52 : decode cX9_reads 52 = .ok (.istore_n 2, 1) := by decide +kernel
theorem dX9_reads_53 : decode cX9_reads 53 = .ok (.iload_n 2, 1) := by decide +kernel
theorem dX9_reads_54 : decode cX9_reads 54 = .ok (.iload_n 1, 1) := by decide +kernel
theorem dX9_reads_55 : decode cX9_reads 55 = .ok (.if_icmp .ge 15, 3) := by decide +kernel
theorem dX9_reads_58 : decode cX9_reads 58 = .ok (.aload_n 0, 1) := by decide +kernel
theorem dX9_reads_59 : decode cX9_reads 59 = .ok (.iconst 1, 1) := by decide +kernel
theorem dX9_reads_60 : decode cX9_reads 60 = .ok (.invokevirtual 211, 3) := by decide +kernel
theorem dX9_reads_63 : decode cX9_reads 63 = .ok (.istore_n 3, 1) := by decide +kernel
theorem dX9_reads_64 : decode cX9_reads 64 = .ok (.iinc 2 1, 3) := by decide +kernel
theorem dX9_reads_67 : decode cX9_reads 67 = .ok (.goto (-14), 3) := by decide +kernel
theorem dX9_reads_70 : decode cX9_reads 70 = .ok (.iload_n 1, 1) := by decide +kernel
theorem dX9_reads_71 : decode cX9_reads 71 = .ok (.ireturn, 1) := by decide +kernel
set_option maxRecDepth 20000 in
theorem ggX9_back_X9_refuses : GoodIn wsX9_back wsX9_refuses := goodIn_r _ [8, 9, 10, 11, 12, 13, 14, 15, 16, 17, 18, 19, 20, 21, 22, 23, 24, 25, 26, 27, 28, 29, 30, 31] (by decide +kernel) (by decide +kernel)
set_option maxRecDepth 20000 in
theorem gX9_back_X9_refuses : GoodIn wsX9_back (wsV RX9 87 RX9 yX9_refuses wsX9_refuses) := goodIn_app (goodIn_of _ (by decide +kernel)) ggX9_back_X9_refuses
theorem dX9_back_0 : decode cX9_back 0 = .ok (.aload_n 0, 1) := by decide +kernel
theorem dX9_back_1 : decode cX9_back 1 = .ok (.getfield 59, 3) := by decide +kernel
theorem dX9_back_4 : decode cX9_back 4 = .ok (.ifCond .ne 10, 3) := by decide +kernel
theorem dX9_back_7 : decode cX9_back 7 = .ok (.aload_n 0, 1) := by decide +kernel
theorem dX9_back_8 : decode cX9_back 8 = .ok (.bipush (-3), 2) := by decide +kernel
theorem dX9_back_10 : decode cX9_back 10 = .ok (.invokevirtual 87, 3) := by decide +kernel
theorem dX9_back_13 : decode cX9_back 13 = .ok (.ireturn, 1) := by decide +kernel
theorem dX9_back_14 : decode cX9_back 14 = .ok (.aload_n 0, 1) := by decide +kernel
theorem dX9_back_15 : decode cX9_back 15 = .ok (.dup, 1) := by decide +kernel
theorem dX9_back_16 : decode cX9_back 16 = .ok (.getfield 59, 3) := by decide +kernel
theorem dX9_back_19 : decode cX9_back 19 = .ok (.iconst 1, 1) := by decide +kernel
theorem dX9_back_20 : decode cX9_back 20 = .ok (.isub, 1) := by decide +kernel
theorem dX9_back_21 : decode cX9_back 21 = .ok (.putfield 59, 3) := by decide +kernel
theorem dX9_back_24 : decode cX9_back 24 = .ok (.iconst 0, 1) := by decide +kernel
theorem dX9_back_25 : decode cX9_back 25 = .ok (.istore_n 1, 1) := by decide +kernel
theorem dX9_back_26 : decode cX9_back 26 = .ok (.iload_n 1, 1) := by decide +kernel
theorem dX9_back_27 : decode cX9_back 27 = .ok (.bipush 56, 2) := by decide +kernel
theorem dX9_back_29 : decode cX9_back 29 = .ok (.if_icmp .ge 29, 3) := by decide +kernel
theorem dX9_back_32 : decode cX9_back 32 = .ok (.aload_n 0, 1) := by decide +kernel
theorem dX9_back_33 : decode cX9_back 33 = .ok (.getfield 7, 3) := by decide +kernel
theorem dX9_back_36 : decode cX9_back 36 = .ok (.iload_n 1, 1) := by decide +kernel
theorem dX9_back_37 : decode cX9_back 37 = .ok (.aload_n 0, 1) := by decide +kernel
theorem dX9_back_38 : decode cX9_back 38 = .ok (.getfield 13, 3) := by decide +kernel
theorem dX9_back_41 : decode cX9_back 41 = .ok (.bipush 56, 2) := by decide +kernel
theorem dX9_back_43 : decode cX9_back 43 = .ok (.aload_n 0, 1) := by decide +kernel
theorem dX9_back_44 : decode cX9_back 44 = .ok (.getfield 59, 3) := by decide +kernel
theorem dX9_back_47 : decode cX9_back 47 = .ok (.imul, 1) := by decide +kernel
theorem dX9_back_48 : decode cX9_back 48 = .ok (.iload_n 1, 1) := by decide +kernel
theorem dX9_back_49 : decode cX9_back 49 = .ok (.iadd, 1) := by decide +kernel
theorem dX9_back_50 : decode cX9_back 50 = .ok (.iaload, 1) := by decide +kernel
theorem dX9_back_51 : decode cX9_back 51 = .ok (.iastore, 1) := by decide +kernel
theorem dX9_back_52 : decode cX9_back 52 = .ok (.iinc 1 1, 3) := by decide +kernel
theorem dX9_back_55 : decode cX9_back 55 = .ok (.goto (-29), 3) := by decide +kernel
theorem dX9_back_58 : decode cX9_back 58 = .ok (.aload_n 0, 1) := by decide +kernel
theorem dX9_back_59 : decode cX9_back 59 = .ok (.getfield 59, 3) := by decide +kernel
theorem dX9_back_62 : decode cX9_back 62 = .ok (.ireturn, 1) := by decide +kernel
set_option maxRecDepth 20000 in
theorem ggX9_toldOf_X9_many : GoodIn wsX9_toldOf wsX9_many := goodIn_r _ [9, 3, 14, 15, 16, 17, 18, 19, 20, 21, 22, 23, 24, 25, 26, 27, 28, 29, 30, 31, 32, 33, 34, 35] (by decide +kernel) (by decide +kernel)
set_option maxRecDepth 20000 in
theorem gX9_toldOf_X9_many : GoodIn wsX9_toldOf (wsV RX9 73 RX9 yX9_many wsX9_many) := goodIn_app (goodIn_of _ (by decide +kernel)) ggX9_toldOf_X9_many
set_option maxRecDepth 20000 in
theorem ggX9_toldOf_X9_told4 : GoodIn wsX9_toldOf wsX9_told4 := goodIn_r _ [13] (by decide +kernel) (by decide +kernel)
set_option maxRecDepth 20000 in
theorem gX9_toldOf_X9_told4 : GoodIn wsX9_toldOf (wsV RX9 150 RX9 yX9_told4 wsX9_told4) := goodIn_app (goodIn_of _ (by decide +kernel)) ggX9_toldOf_X9_told4
theorem dX9_toldOf_0 : decode cX9_toldOf 0 = .ok (.iload_n 1, 1) := by decide +kernel
theorem dX9_toldOf_1 : decode cX9_toldOf 1 = .ok (.iconst 3, 1) := by decide +kernel
theorem dX9_toldOf_2 : decode cX9_toldOf 2 = .ok (.if_icmp .ge 10, 3) := by decide +kernel
theorem dX9_toldOf_5 : decode cX9_toldOf 5 = .ok (.aload_n 0, 1) := by decide +kernel
theorem dX9_toldOf_6 : decode cX9_toldOf 6 = .ok (.getfield 16, 3) := by decide +kernel
theorem dX9_toldOf_9 : decode cX9_toldOf 9 = .ok (.iload_n 1, 1) := by decide +kernel
theorem dX9_toldOf_10 : decode cX9_toldOf 10 = .ok (.iaload, 1) := by decide +kernel
theorem dX9_toldOf_11 : decode cX9_toldOf 11 = .ok (.ireturn, 1) := by decide +kernel
theorem dX9_toldOf_12 : decode cX9_toldOf 12 = .ok (.iload_n 1, 1) := by decide +kernel
theorem dX9_toldOf_13 : decode cX9_toldOf 13 = .ok (.iconst 3, 1) := by decide +kernel
theorem dX9_toldOf_14 : decode cX9_toldOf 14 = .ok (.if_icmp .ne 10, 3) := by decide +kernel
theorem dX9_toldOf_17 : decode cX9_toldOf 17 = .ok (.aload_n 0, 1) := by decide +kernel
theorem dX9_toldOf_18 : decode cX9_toldOf 18 = .ok (.getfield 193, 3) := by decide +kernel
theorem dX9_toldOf_21 : decode cX9_toldOf 21 = .ok (.goto 64, 3) := by decide +kernel
theorem dX9_toldOf_24 : decode cX9_toldOf 24 = .ok (.iload_n 1, 1) := by decide +kernel
theorem dX9_toldOf_25 : decode cX9_toldOf 25 = .ok (.bipush 7, 2) := by decide +kernel
theorem dX9_toldOf_27 : decode cX9_toldOf 27 = .ok (.if_icmp .ge 13, 3) := by decide +kernel
theorem dX9_toldOf_30 : decode cX9_toldOf 30 = .ok (.aload_n 0, 1) := by decide +kernel
theorem dX9_toldOf_31 : decode cX9_toldOf 31 = .ok (.iload_n 1, 1) := by decide +kernel
theorem dX9_toldOf_32 : decode cX9_toldOf 32 = .ok (.iconst 4, 1) := by decide +kernel
theorem dX9_toldOf_33 : decode cX9_toldOf 33 = .ok (.isub, 1) := by decide +kernel
theorem dX9_toldOf_34 : decode cX9_toldOf 34 = .ok (.invokevirtual 73, 3) := by decide +kernel
theorem dX9_toldOf_37 : decode cX9_toldOf 37 = .ok (.goto 48, 3) := by decide +kernel
theorem dX9_toldOf_40 : decode cX9_toldOf 40 = .ok (.iload_n 1, 1) := by decide +kernel
theorem dX9_toldOf_41 : decode cX9_toldOf 41 = .ok (.bipush 7, 2) := by decide +kernel
theorem dX9_toldOf_43 : decode cX9_toldOf 43 = .ok (.if_icmp .ne 38, 3) := by decide +kernel
theorem dX9_toldOf_46 : decode cX9_toldOf 46 = .ok (.aload_n 0, 1) := by decide +kernel
theorem dX9_toldOf_47 : decode cX9_toldOf 47 = .ok (.aload_n 0, 1) := by decide +kernel
theorem dX9_toldOf_48 : decode cX9_toldOf 48 = .ok (.getfield 7, 3) := by decide +kernel
theorem dX9_toldOf_51 : decode cX9_toldOf 51 = .ok (.bipush 39, 2) := by decide +kernel
theorem dX9_toldOf_53 : decode cX9_toldOf 53 = .ok (.iaload, 1) := by decide +kernel
theorem dX9_toldOf_54 : decode cX9_toldOf 54 = .ok (.aload_n 0, 1) := by decide +kernel
theorem dX9_toldOf_55 : decode cX9_toldOf 55 = .ok (.getfield 7, 3) := by decide +kernel
theorem dX9_toldOf_58 : decode cX9_toldOf 58 = .ok (.bipush 40, 2) := by decide +kernel
theorem dX9_toldOf_60 : decode cX9_toldOf 60 = .ok (.iaload, 1) := by decide +kernel
theorem dX9_toldOf_61 : decode cX9_toldOf 61 = .ok (.aload_n 0, 1) := by decide +kernel
theorem dX9_toldOf_62 : decode cX9_toldOf 62 = .ok (.getfield 7, 3) := by decide +kernel
theorem dX9_toldOf_65 : decode cX9_toldOf 65 = .ok (.bipush 41, 2) := by decide +kernel
theorem dX9_toldOf_67 : decode cX9_toldOf 67 = .ok (.iaload, 1) := by decide +kernel
theorem dX9_toldOf_68 : decode cX9_toldOf 68 = .ok (.aload_n 0, 1) := by decide +kernel
theorem dX9_toldOf_69 : decode cX9_toldOf 69 = .ok (.getfield 7, 3) := by decide +kernel
theorem dX9_toldOf_72 : decode cX9_toldOf 72 = .ok (.bipush 42, 2) := by decide +kernel
theorem dX9_toldOf_74 : decode cX9_toldOf 74 = .ok (.iaload, 1) := by decide +kernel
theorem dX9_toldOf_75 : decode cX9_toldOf 75 = .ok (.invokevirtual 150, 3) := by decide +kernel
theorem dX9_toldOf_78 : decode cX9_toldOf 78 = .ok (.goto 7, 3) := by decide +kernel
theorem dX9_toldOf_81 : decode cX9_toldOf 81 = .ok (.aload_n 0, 1) := by decide +kernel
theorem dX9_toldOf_82 : decode cX9_toldOf 82 = .ok (.getfield 59, 3) := by decide +kernel
theorem dX9_toldOf_85 : decode cX9_toldOf 85 = .ok (.ireturn, 1) := by decide +kernel
set_option maxRecDepth 20000 in
theorem ggX9_told_X9_in : GoodIn wsX9_told wsX9_in := goodIn_r _ [5] (by decide +kernel) (by decide +kernel)
set_option maxRecDepth 20000 in
theorem gX9_told_X9_in : GoodIn wsX9_told (va_wsS RX9 65 yX9_in wsX9_in) := goodIn_app (goodIn_of _ (by decide +kernel)) ggX9_told_X9_in
set_option maxRecDepth 20000 in
theorem ggX9_told_X9_toldOf : GoodIn wsX9_told wsX9_toldOf := goodIn_r _ [9, 10, 11, 12, 13, 14, 15, 16, 4, 17, 18, 19, 20, 21, 26, 27, 28, 29, 30, 31, 32, 33, 34, 35, 36, 37, 38, 39, 40, 41, 42, 43, 44, 45, 46, 47] (by decide +kernel) (by decide +kernel)
set_option maxRecDepth 20000 in
theorem gX9_told_X9_toldOf : GoodIn wsX9_told (wsV RX9 217 RX9 yX9_toldOf wsX9_toldOf) := goodIn_app (goodIn_of _ (by decide +kernel)) ggX9_told_X9_toldOf
set_option maxRecDepth 20000 in
theorem ggX9_told_X9_refuses : GoodIn wsX9_told wsX9_refuses := goodIn_r _ [25, 10, 26, 27, 28, 29, 30, 31, 32, 33, 34, 35, 36, 37, 38, 39, 40, 41, 42, 43, 44, 45, 46, 47] (by decide +kernel) (by decide +kernel)
set_option maxRecDepth 20000 in
theorem gX9_told_X9_refuses : GoodIn wsX9_told (wsV RX9 87 RX9 yX9_refuses wsX9_refuses) := goodIn_app (goodIn_of _ (by decide +kernel)) ggX9_told_X9_refuses
theorem dX9_told_0 : decode cX9_told 0 = .ok (.iload_n 1, 1) := by decide +kernel
theorem dX9_told_1 : decode cX9_told 1 = .ok (.i2l, 1) := by decide +kernel
theorem dX9_told_2 : decode cX9_told 2 = .ok (.lconst 0, 1) := by decide +kernel
theorem dX9_told_3 : decode cX9_told 3 = .ok (.ldc2_w 215, 3) := by decide +kernel
theorem dX9_told_6 : decode cX9_told 6 = .ok (.invokestatic 65, 3) := by decide +kernel
theorem dX9_told_9 : decode cX9_told 9 = .ok (.ifCond .eq 11, 3) := by decide +kernel
theorem dX9_told_12 : decode cX9_told 12 = .ok (.aload_n 0, 1) := by decide +kernel
theorem dX9_told_13 : decode cX9_told 13 = .ok (.iload_n 1, 1) := by decide +kernel
theorem dX9_told_14 : decode cX9_told 14 = .ok (.invokevirtual 217, 3) := by decide +kernel
theorem dX9_told_17 : decode cX9_told 17 = .ok (.goto 9, 3) := by decide +kernel
theorem dX9_told_20 : decode cX9_told 20 = .ok (.aload_n 0, 1) := by decide +kernel
theorem dX9_told_21 : decode cX9_told 21 = .ok (.bipush (-2), 2) := by decide +kernel
theorem dX9_told_23 : decode cX9_told 23 = .ok (.invokevirtual 87, 3) := by decide +kernel
theorem dX9_told_26 : decode cX9_told 26 = .ok (.ireturn, 1) := by decide +kernel
set_option maxRecDepth 20000 in
theorem ggX9_digest_X9_toldOf : GoodIn wsX9_digest wsX9_toldOf := goodIn_r _ [9, 10, 11, 12, 13, 14, 15, 16, 8, 17, 18, 19, 20, 21, 129, 130, 131, 132, 133, 134, 135, 136, 137, 138, 139, 140, 141, 142, 143, 144, 145, 146, 147, 148, 149, 150] (by decide +kernel) (by decide +kernel)
set_option maxRecDepth 20000 in
theorem gX9_digest_X9_toldOf : GoodIn wsX9_digest (wsV RX9 217 RX9 yX9_toldOf wsX9_toldOf) := goodIn_app (goodIn_of _ (by decide +kernel)) ggX9_digest_X9_toldOf
set_option maxRecDepth 20000 in
theorem ggX9_digest_X9_many : GoodIn wsX9_digest wsX9_many := goodIn_r _ [17, 12, 129, 130, 131, 132, 133, 134, 135, 136, 137, 138, 139, 140, 141, 142, 143, 144, 145, 146, 147, 148, 149, 150] (by decide +kernel) (by decide +kernel)
set_option maxRecDepth 20000 in
theorem gX9_digest_X9_many : GoodIn wsX9_digest (wsV RX9 73 RX9 yX9_many wsX9_many) := goodIn_app (goodIn_of _ (by decide +kernel)) ggX9_digest_X9_many
set_option maxRecDepth 20000 in
theorem ggX9_digest_X9_ofStep : GoodIn wsX9_digest wsX9_ofStep := goodIn_r _ [25, 26, 27, 28, 8, 29, 12, 30, 31, 32, 33, 34, 35, 36, 37, 129, 130, 131, 132, 133, 134, 135, 136, 137, 138, 139, 140, 141, 142, 143, 144, 145, 146, 147, 148, 149, 150] (by decide +kernel) (by decide +kernel)
set_option maxRecDepth 20000 in
theorem gX9_digest_X9_ofStep : GoodIn wsX9_digest (wsV RX9 114 RX9 yX9_ofStep wsX9_ofStep) := goodIn_app (goodIn_of _ (by decide +kernel)) ggX9_digest_X9_ofStep
set_option maxRecDepth 20000 in
theorem ggX9_digest_X9_findsAll : GoodIn wsX9_digest wsX9_findsAll := goodIn_r _ [41, 4, 3, 42, 43, 44, 45, 46, 8, 47, 48, 49, 50, 51, 52, 53, 54, 55, 56, 57, 58, 59, 60, 61, 62, 63, 14, 15, 16, 17, 12, 26, 27, 28, 29, 64, 65, 66, 67, 68, 69, 70, 71, 72, 73, 74, 75, 76, 77, 78, 79, 34, 35, 36, 37, 30, 31, 32, 33, 80, 81, 82, 83, 84, 85, 86, 87, 88, 89, 90, 91, 92, 18, 19, 20, 21, 93, 94, 95, 96, 129, 130, 131, 132, 133, 134, 135, 136, 137, 138, 139, 140, 141, 142, 143, 144, 145, 146, 147, 148, 149, 150] (by decide +kernel) (by decide +kernel)
set_option maxRecDepth 20000 in
theorem gX9_digest_X9_findsAll : GoodIn wsX9_digest (wsV RX9 167 RX9 yX9_findsAll wsX9_findsAll) := goodIn_app (goodIn_of _ (by decide +kernel)) ggX9_digest_X9_findsAll
set_option maxRecDepth 20000 in
theorem ggX9_digest_X9_races : GoodIn wsX9_digest wsX9_races := goodIn_r _ [100, 101, 102, 103, 8, 104, 105, 49, 60, 61, 62, 63, 14, 15, 16, 17, 12, 26, 27, 28, 29, 64, 65, 66, 67, 106, 107, 108, 109, 110, 111, 112, 113, 114, 115, 116, 117, 118, 119, 120, 76, 77, 78, 79, 34, 35, 36, 37, 30, 31, 32, 33, 129, 130, 131, 132, 133, 134, 135, 136, 137, 138, 139, 140, 141, 142, 143, 144, 145, 146, 147, 148, 149, 150] (by decide +kernel) (by decide +kernel)
set_option maxRecDepth 20000 in
theorem gX9_digest_X9_races : GoodIn wsX9_digest (wsV RX9 224 RX9 yX9_races wsX9_races) := goodIn_app (goodIn_of _ (by decide +kernel)) ggX9_digest_X9_races
set_option maxRecDepth 20000 in
theorem ggX9_digest_X9_runOf : GoodIn wsX9_digest wsX9_runOf := goodIn_r _ [124, 12, 43, 84, 125, 126, 127, 8, 128, 49, 44, 45, 46, 47, 42, 48, 85, 86, 87, 88, 89, 90, 91, 92, 26, 27, 28, 29, 60, 61, 62, 63, 14, 15, 16, 17, 64, 65, 66, 67, 18, 19, 20, 21, 129, 130, 131, 132, 133, 134, 135, 136, 137, 138, 139, 140, 141, 142, 143, 144, 145, 146, 147, 148, 149, 150] (by decide +kernel) (by decide +kernel)
set_option maxRecDepth 20000 in
theorem gX9_digest_X9_runOf : GoodIn wsX9_digest (wsV RX9 182 RX9 yX9_runOf wsX9_runOf) := goodIn_app (goodIn_of _ (by decide +kernel)) ggX9_digest_X9_runOf
theorem dX9_digest_0 : decode cX9_digest 0 = .ok (.ldc2_w 220, 3) := by decide +kernel
theorem dX9_digest_3 : decode cX9_digest 3 = .ok (.lstore_n 1, 1) := by decide +kernel
theorem dX9_digest_4 : decode cX9_digest 4 = .ok (.iconst 0, 1) := by decide +kernel
theorem dX9_digest_5 : decode cX9_digest 5 = .ok (.istore_n 3, 1) := by decide +kernel
theorem dX9_digest_6 : decode cX9_digest 6 = .ok (.iload_n 3, 1) := by decide +kernel
theorem dX9_digest_7 : decode cX9_digest 7 = .ok (.bipush 9, 2) := by decide +kernel
theorem dX9_digest_9 : decode cX9_digest 9 = .ok (.if_icmp .ge 22, 3) := by decide +kernel
theorem dX9_digest_12 : decode cX9_digest 12 = .ok (.ldc2_w 222, 3) := by decide +kernel
theorem dX9_digest_15 : decode cX9_digest 15 = .ok (.lload_n 1, 1) := by decide +kernel
theorem dX9_digest_16 : decode cX9_digest 16 = .ok (.lmul, 1) := by decide +kernel
theorem dX9_digest_17 : decode cX9_digest 17 = .ok (.aload_n 0, 1) := by decide +kernel
theorem dX9_digest_18 : decode cX9_digest 18 = .ok (.iload_n 3, 1) := by decide +kernel
theorem dX9_digest_19 : decode cX9_digest 19 = .ok (.invokevirtual 217, 3) := by decide +kernel
theorem dX9_digest_22 : decode cX9_digest 22 = .ok (.i2l, 1) := by decide +kernel
theorem dX9_digest_23 : decode cX9_digest 23 = .ok (.ladd, 1) := by decide +kernel
theorem dX9_digest_24 : decode cX9_digest 24 = .ok (.lstore_n 1, 1) := by decide +kernel
theorem dX9_digest_25 : decode cX9_digest 25 = .ok (.iinc 3 1, 3) := by decide +kernel
theorem dX9_digest_28 : decode cX9_digest 28 = .ok (.goto (-22), 3) := by decide +kernel
theorem dX9_digest_31 : decode cX9_digest 31 = .ok (.iconst 0, 1) := by decide +kernel
theorem dX9_digest_32 : decode cX9_digest 32 = .ok (.istore_n 3, 1) := by decide +kernel
theorem dX9_digest_33 : decode cX9_digest 33 = .ok (.iload_n 3, 1) := by decide +kernel
theorem dX9_digest_34 : decode cX9_digest 34 = .ok (.iconst 3, 1) := by decide +kernel
theorem dX9_digest_35 : decode cX9_digest 35 = .ok (.if_icmp .ge 60, 3) := by decide +kernel
theorem dX9_digest_38 : decode cX9_digest 38 = .ok (.iconst 0, 1) := by decide +kernel
theorem dX9_digest_39 : decode cX9_digest 39 = .ok (.istore 4, 2) := by decide +kernel
theorem dX9_digest_41 : decode cX9_digest 41 = .ok (.iload 4, 2) := by decide +kernel
theorem dX9_digest_43 : decode cX9_digest 43 = .ok (.aload_n 0, 1) := by decide +kernel
theorem dX9_digest_44 : decode cX9_digest 44 = .ok (.iload_n 3, 1) := by decide +kernel
theorem dX9_digest_45 : decode cX9_digest 45 = .ok (.invokevirtual 73, 3) := by decide +kernel
theorem dX9_digest_48 : decode cX9_digest 48 = .ok (.if_icmp .ge 41, 3) := by decide +kernel
theorem dX9_digest_51 : decode cX9_digest 51 = .ok (.iconst 0, 1) := by decide +kernel
theorem dX9_digest_52 : decode cX9_digest 52 = .ok (.istore 5, 2) := by decide +kernel
theorem dX9_digest_54 : decode cX9_digest 54 = .ok (.iload 5, 2) := by decide +kernel
theorem dX9_digest_56 : decode cX9_digest 56 = .ok (.iconst 5, 1) := by decide +kernel
theorem dX9_digest_57 : decode cX9_digest 57 = .ok (.if_icmp .ge 26, 3) := by decide +kernel
theorem dX9_digest_60 : decode cX9_digest 60 = .ok (.ldc2_w 222, 3) := by decide +kernel
theorem dX9_digest_63 : decode cX9_digest 63 = .ok (.lload_n 1, 1) := by decide +kernel
theorem dX9_digest_64 : decode cX9_digest 64 = .ok (.lmul, 1) := by decide +kernel
theorem dX9_digest_65 : decode cX9_digest 65 = .ok (.aload_n 0, 1) := by decide +kernel
theorem dX9_digest_66 : decode cX9_digest 66 = .ok (.iload_n 3, 1) := by decide +kernel
theorem dX9_digest_67 : decode cX9_digest 67 = .ok (.iload 4, 2) := by decide +kernel
theorem dX9_digest_69 : decode cX9_digest 69 = .ok (.iload 5, 2) := by decide +kernel
theorem dX9_digest_71 : decode cX9_digest 71 = .ok (.invokevirtual 114, 3) := by decide +kernel
theorem dX9_digest_74 : decode cX9_digest 74 = .ok (.i2l, 1) := by decide +kernel
theorem dX9_digest_75 : decode cX9_digest 75 = .ok (.ladd, 1) := by decide +kernel
theorem dX9_digest_76 : decode cX9_digest 76 = .ok (.lstore_n 1, 1) := by decide +kernel
theorem dX9_digest_77 : decode cX9_digest 77 = .ok (.iinc 5 1, 3) := by decide +kernel
theorem dX9_digest_80 : decode cX9_digest 80 = .ok (.goto (-26), 3) := by decide +kernel
theorem dX9_digest_83 : decode cX9_digest 83 = .ok (.iinc 4 1, 3) := by decide +kernel
theorem dX9_digest_86 : decode cX9_digest 86 = .ok (.goto (-45), 3) := by decide +kernel
theorem dX9_digest_89 : decode cX9_digest 89 = .ok (.iinc 3 1, 3) := by decide +kernel
theorem dX9_digest_92 : decode cX9_digest 92 = .ok (.goto (-59), 3) := by decide +kernel
theorem dX9_digest_95 : decode cX9_digest 95 = .ok (.aload_n 0, 1) := by decide +kernel
theorem dX9_digest_96 : decode cX9_digest 96 = .ok (.invokevirtual 167, 3) := by decide +kernel
theorem dX9_digest_99 : decode cX9_digest 99 = .ok (.iconst 0, 1) := by decide +kernel
theorem dX9_digest_100 : decode cX9_digest 100 = .ok (.istore_n 3, 1) := by decide +kernel
theorem dX9_digest_101 : decode cX9_digest 101 = .ok (.iload_n 3, 1) := by decide +kernel
theorem dX9_digest_102 : decode cX9_digest 102 = .ok (.iconst 4, 1) := by decide +kernel
theorem dX9_digest_103 : decode cX9_digest 103 = .ok (.if_icmp .ge 23, 3) := by decide +kernel
theorem dX9_digest_106 : decode cX9_digest 106 = .ok (.ldc2_w 222, 3) := by decide +kernel
theorem dX9_digest_109 : decode cX9_digest 109 = .ok (.lload_n 1, 1) := by decide +kernel
theorem dX9_digest_110 : decode cX9_digest 110 = .ok (.lmul, 1) := by decide +kernel
theorem dX9_digest_111 : decode cX9_digest 111 = .ok (.aload_n 0, 1) := by decide +kernel
theorem dX9_digest_112 : decode cX9_digest 112 = .ok (.getfield 38, 3) := by decide +kernel
theorem dX9_digest_115 : decode cX9_digest 115 = .ok (.iload_n 3, 1) := by decide +kernel
theorem dX9_digest_116 : decode cX9_digest 116 = .ok (.iaload, 1) := by decide +kernel
theorem dX9_digest_117 : decode cX9_digest 117 = .ok (.i2l, 1) := by decide +kernel
theorem dX9_digest_118 : decode cX9_digest 118 = .ok (.ladd, 1) := by decide +kernel
theorem dX9_digest_119 : decode cX9_digest 119 = .ok (.lstore_n 1, 1) := by decide +kernel
theorem dX9_digest_120 : decode cX9_digest 120 = .ok (.iinc 3 1, 3) := by decide +kernel
theorem dX9_digest_123 : decode cX9_digest 123 = .ok (.goto (-22), 3) := by decide +kernel
theorem dX9_digest_126 : decode cX9_digest 126 = .ok (.ldc2_w 222, 3) := by decide +kernel
theorem dX9_digest_129 : decode cX9_digest 129 = .ok (.lload_n 1, 1) := by decide +kernel
theorem dX9_digest_130 : decode cX9_digest 130 = .ok (.lmul, 1) := by decide +kernel
theorem dX9_digest_131 : decode cX9_digest 131 = .ok (.aload_n 0, 1) := by decide +kernel
theorem dX9_digest_132 : decode cX9_digest 132 = .ok (.invokevirtual 224, 3) := by decide +kernel
theorem dX9_digest_135 : decode cX9_digest 135 = .ok (.i2l, 1) := by decide +kernel
theorem dX9_digest_136 : decode cX9_digest 136 = .ok (.ladd, 1) := by decide +kernel
theorem dX9_digest_137 : decode cX9_digest 137 = .ok (.lstore_n 1, 1) := by decide +kernel
theorem dX9_digest_138 : decode cX9_digest 138 = .ok (.iconst 0, 1) := by decide +kernel
theorem dX9_digest_139 : decode cX9_digest 139 = .ok (.istore_n 3, 1) := by decide +kernel
theorem dX9_digest_140 : decode cX9_digest 140 = .ok (.iload_n 3, 1) := by decide +kernel
theorem dX9_digest_141 : decode cX9_digest 141 = .ok (.bipush 6, 2) := by decide +kernel
theorem dX9_digest_143 : decode cX9_digest 143 = .ok (.if_icmp .ge 22, 3) := by decide +kernel
theorem dX9_digest_146 : decode cX9_digest 146 = .ok (.ldc2_w 222, 3) := by decide +kernel
theorem dX9_digest_149 : decode cX9_digest 149 = .ok (.lload_n 1, 1) := by decide +kernel
theorem dX9_digest_150 : decode cX9_digest 150 = .ok (.lmul, 1) := by decide +kernel
theorem dX9_digest_151 : decode cX9_digest 151 = .ok (.aload_n 0, 1) := by decide +kernel
theorem dX9_digest_152 : decode cX9_digest 152 = .ok (.iload_n 3, 1) := by decide +kernel
theorem dX9_digest_153 : decode cX9_digest 153 = .ok (.invokevirtual 182, 3) := by decide +kernel
theorem dX9_digest_156 : decode cX9_digest 156 = .ok (.i2l, 1) := by decide +kernel
theorem dX9_digest_157 : decode cX9_digest 157 = .ok (.ladd, 1) := by decide +kernel
theorem dX9_digest_158 : decode cX9_digest 158 = .ok (.lstore_n 1, 1) := by decide +kernel
theorem dX9_digest_159 : decode cX9_digest 159 = .ok (.iinc 3 1, 3) := by decide +kernel
theorem dX9_digest_162 : decode cX9_digest 162 = .ok (.goto (-22), 3) := by decide +kernel
theorem dX9_digest_165 : decode cX9_digest 165 = .ok (.iconst 0, 1) := by decide +kernel
theorem dX9_digest_166 : decode cX9_digest 166 = .ok (.istore_n 3, 1) := by decide +kernel
theorem dX9_digest_167 : decode cX9_digest 167 = .ok (.iload_n 3, 1) := by decide +kernel
theorem dX9_digest_168 : decode cX9_digest 168 = .ok (.sipush 10000, 3) := by decide +kernel
theorem dX9_digest_171 : decode cX9_digest 171 = .ok (.if_icmp .ge 31, 3) := by decide +kernel
theorem dX9_digest_174 : decode cX9_digest 174 = .ok (.aload_n 0, 1) := by decide +kernel
theorem dX9_digest_175 : decode cX9_digest 175 = .ok (.getfield 34, 3) := by decide +kernel
theorem dX9_digest_178 : decode cX9_digest 178 = .ok (.iload_n 3, 1) := by decide +kernel
theorem dX9_digest_179 : decode cX9_digest 179 = .ok (.baload, 1) := by decide +kernel
theorem dX9_digest_180 : decode cX9_digest 180 = .ok (.ifCond .eq 14, 3) := by decide +kernel
theorem dX9_digest_183 : decode cX9_digest 183 = .ok (.ldc2_w 222, 3) := by decide +kernel
theorem dX9_digest_186 : decode cX9_digest 186 = .ok (.lload_n 1, 1) := by decide +kernel
theorem dX9_digest_187 : decode cX9_digest 187 = .ok (.lmul, 1) := by decide +kernel
theorem dX9_digest_188 : decode cX9_digest 188 = .ok (.iload_n 3, 1) := by decide +kernel
theorem dX9_digest_189 : decode cX9_digest 189 = .ok (.i2l, 1) := by decide +kernel
theorem dX9_digest_190 : decode cX9_digest 190 = .ok (.ladd, 1) := by decide +kernel
theorem dX9_digest_191 : decode cX9_digest 191 = .ok (.goto 4, 3) := by decide +kernel
theorem dX9_digest_194 : decode cX9_digest 194 = .ok (.lload_n 1, 1) := by decide +kernel
theorem dX9_digest_195 : decode cX9_digest 195 = .ok (.lstore_n 1, 1) := by decide +kernel
theorem dX9_digest_196 : decode cX9_digest 196 = .ok (.iinc 3 1, 3) := by decide +kernel
theorem dX9_digest_199 : decode cX9_digest 199 = .ok (.goto (-32), 3) := by decide +kernel
theorem dX9_digest_202 : decode cX9_digest 202 = .ok (.lload_n 1, 1) := by decide +kernel
theorem dX9_digest_203 : decode cX9_digest 203 = .ok (.lreturn, 1) := by decide +kernel
set_option maxRecDepth 20000 in
theorem ggL_law_X8_init : GoodIn wsL_law wsX8_init := goodIn_r _ [8, 9, 10, 11, 12, 13, 14, 15, 16, 17, 18, 19, 20, 21, 22, 23, 24, 25, 26, 27, 28, 29, 30, 31, 32, 33, 34, 35, 36, 37, 38, 39, 40, 41, 42, 43, 44, 45, 46, 47, 48, 49, 50, 51, 52, 53, 54, 55, 56, 57, 58, 59, 60, 61, 62, 804, 805, 806, 807, 808, 773, 774, 775, 776, 777, 778, 779, 780, 781, 809, 810, 811, 812, 813, 814, 815, 816, 817, 818, 819, 820, 821, 822, 823, 824, 825, 826, 827, 828] (by decide +kernel) (by decide +kernel)
set_option maxRecDepth 20000 in
theorem gL_law_X8_init : GoodIn wsL_law (wsX8_init) := ggL_law_X8_init
set_option maxRecDepth 20000 in
theorem ggL_law_X9_init : GoodIn wsL_law wsX9_init := goodIn_r _ [65, 66, 10, 11, 36, 67, 68, 69, 70, 71, 72, 73, 74, 52, 75, 76, 77, 78, 79, 80, 81, 82, 782, 783, 784, 785, 786, 787, 788, 789, 790, 791, 792, 793, 794, 795, 796, 797, 798, 799, 800, 801, 802, 803] (by decide +kernel) (by decide +kernel)
set_option maxRecDepth 20000 in
theorem gL_law_X9_init : GoodIn wsL_law (wsX9_init) := ggL_law_X9_init
