theorem dX9_canDo_15 : decode cX9_canDo 15 = .ok (.ireturn, 1) := by decide +kernel
theorem dX9_canDo_16 : decode cX9_canDo 16 = .ok (.aload_n 0, 1) := by decide +kernel
theorem dX9_canDo_17 : decode cX9_canDo 17 = .ok (.iload_n 1, 1) := by decide +kernel
theorem dX9_canDo_18 : decode cX9_canDo 18 = .ok (.aload_n 0, 1) := by decide +kernel
theorem dX9_canDo_19 : decode cX9_canDo 19 = .ok (.getfield 19, 3) := by decide +kernel
theorem dX9_canDo_22 : decode cX9_canDo 22 = .ok (.iload_n 1, 1) := by decide +kernel
theorem dX9_canDo_23 : decode cX9_canDo 23 = .ok (.iaload, 1) := by decide +kernel
theorem dX9_canDo_24 : decode cX9_canDo 24 = .ok (.iconst 0, 1) := by decide +kernel
theorem dX9_canDo_25 : decode cX9_canDo 25 = .ok (.invokevirtual 97, 3) := by decide +kernel
theorem dX9_canDo_28 : decode cX9_canDo 28 = .ok (.istore_n 2, 1) := by decide +kernel
theorem dX9_canDo_29 : decode cX9_canDo 29 = .ok (.iload_n 2, 1) := by decide +kernel
theorem dX9_canDo_30 : decode cX9_canDo 30 = .ok (.iconst 4, 1) := by decide +kernel
theorem dX9_canDo_31 : decode cX9_canDo 31 = .ok (.if_icmp .ge 7, 3) := by decide +kernel
theorem dX9_canDo_34 : decode cX9_canDo 34 = .ok (.iconst (-1), 1) := by decide +kernel
theorem dX9_canDo_35 : decode cX9_canDo 35 = .ok (.goto 19, 3) := by decide +kernel
theorem dX9_canDo_38 : decode cX9_canDo 38 = .ok (.aload_n 0, 1) := by decide +kernel
theorem dX9_canDo_39 : decode cX9_canDo 39 = .ok (.aload_n 0, 1) := by decide +kernel
theorem dX9_canDo_40 : decode cX9_canDo 40 = .ok (.iload_n 1, 1) := by decide +kernel
theorem dX9_canDo_41 : decode cX9_canDo 41 = .ok (.aload_n 0, 1) := by decide +kernel
theorem dX9_canDo_42 : decode cX9_canDo 42 = .ok (.getfield 19, 3) := by decide +kernel
theorem dX9_canDo_45 : decode cX9_canDo 45 = .ok (.iload_n 1, 1) := by decide +kernel
theorem dX9_canDo_46 : decode cX9_canDo 46 = .ok (.iaload, 1) := by decide +kernel
theorem dX9_canDo_47 : decode cX9_canDo 47 = .ok (.iconst 1, 1) := by decide +kernel
theorem dX9_canDo_48 : decode cX9_canDo 48 = .ok (.invokevirtual 97, 3) := by decide +kernel
theorem dX9_canDo_51 : decode cX9_canDo 51 = .ok (.invokevirtual 124, 3) := by decide +kernel
theorem dX9_canDo_54 : decode cX9_canDo 54 = .ok (.istore_n 3, 1) := by decide +kernel
theorem dX9_canDo_55 : decode cX9_canDo 55 = .ok (.iload_n 2, 1) := by decide +kernel
theorem dX9_canDo_56 : decode cX9_canDo 56 = .ok (.iconst 4, 1) := by decide +kernel
theorem dX9_canDo_57 : decode cX9_canDo 57 = .ok (.if_icmp .lt 23, 3) := by decide +kernel
theorem dX9_canDo_60 : decode cX9_canDo 60 = .ok (.iload_n 2, 1) := by decide +kernel
theorem dX9_canDo_61 : decode cX9_canDo 61 = .ok (.iconst 4, 1) := by decide +kernel
theorem dX9_canDo_62 : decode cX9_canDo 62 = .ok (.if_icmp .ne 8, 3) := by decide +kernel
theorem dX9_canDo_65 : decode cX9_canDo 65 = .ok (.iload_n 3, 1) := by decide +kernel
theorem dX9_canDo_66 : decode cX9_canDo 66 = .ok (.iconst (-1), 1) := by decide +kernel
theorem dX9_canDo_67 : decode cX9_canDo 67 = .ok (.if_icmp .eq 13, 3) := by decide +kernel
theorem dX9_canDo_70 : decode cX9_canDo 70 = .ok (.iload_n 2, 1) := by decide +kernel
theorem dX9_canDo_71 : decode cX9_canDo 71 = .ok (.iconst 5, 1) := by decide +kernel
theorem dX9_canDo_72 : decode cX9_canDo 72 = .ok (.if_icmp .ne 12, 3) := by decide +kernel
theorem dX9_canDo_75 : decode cX9_canDo 75 = .ok (.iload_n 3, 1) := by decide +kernel
theorem dX9_canDo_76 : decode cX9_canDo 76 = .ok (.iload_n 1, 1) := by decide +kernel
theorem dX9_canDo_77 : decode cX9_canDo 77 = .ok (.if_icmp .ne 7, 3) := by decide +kernel
theorem dX9_canDo_80 : decode cX9_canDo 80 = .ok (.iconst 1, 1) := by decide +kernel
theorem dX9_canDo_81 : decode cX9_canDo 81 = .ok (.goto 4, 3) := by decide +kernel
theorem dX9_canDo_84 : decode cX9_canDo 84 = .ok (.iconst 0, 1) := by decide +kernel
theorem dX9_canDo_85 : decode cX9_canDo 85 = .ok (.ireturn, 1) := by decide +kernel
set_option maxRecDepth 20000 in
theorem ggX9_isStill_X9_canDo : GoodIn wsX9_isStill wsX9_canDo := goodIn_r _ [5, 6, 7, 8, 9, 4, 10, 11, 12, 13, 14, 15, 16, 17, 18, 19, 20, 21, 22, 23, 24, 25, 26, 27, 28, 29, 30, 31, 32, 33, 34, 35, 36, 37, 38, 39, 40, 41] (by decide +kernel) (by decide +kernel)
set_option maxRecDepth 20000 in
theorem gX9_isStill_X9_canDo : GoodIn wsX9_isStill (wsV RX9 127 RX9 yX9_canDo wsX9_canDo) := goodIn_app (goodIn_of _ (by decide +kernel)) ggX9_isStill_X9_canDo
theorem dX9_isStill_0 : decode cX9_isStill 0 = .ok (.aload_n 0, 1) := by decide +kernel
theorem dX9_isStill_1 : decode cX9_isStill 1 = .ok (.iconst 0, 1) := by decide +kernel
theorem dX9_isStill_2 : decode cX9_isStill 2 = .ok (.invokevirtual 127, 3) := by decide +kernel
theorem dX9_isStill_5 : decode cX9_isStill 5 = .ok (.ifCond .ne 23, 3) := by decide +kernel
theorem dX9_isStill_8 : decode cX9_isStill 8 = .ok (.aload_n 0, 1) := by decide +kernel
theorem dX9_isStill_9 : decode cX9_isStill 9 = .ok (.iconst 1, 1) := by decide +kernel
theorem dX9_isStill_10 : decode cX9_isStill 10 = .ok (.invokevirtual 127, 3) := by decide +kernel
theorem dX9_isStill_13 : decode cX9_isStill 13 = .ok (.ifCond .ne 15, 3) := by decide +kernel
theorem dX9_isStill_16 : decode cX9_isStill 16 = .ok (.aload_n 0, 1) := by decide +kernel
theorem dX9_isStill_17 : decode cX9_isStill 17 = .ok (.iconst 2, 1) := by decide +kernel
theorem dX9_isStill_18 : decode cX9_isStill 18 = .ok (.invokevirtual 127, 3) := by decide +kernel
theorem dX9_isStill_21 : decode cX9_isStill 21 = .ok (.ifCond .ne 7, 3) := by decide +kernel
theorem dX9_isStill_24 : decode cX9_isStill 24 = .ok (.iconst 1, 1) := by decide +kernel
theorem dX9_isStill_25 : decode cX9_isStill 25 = .ok (.goto 4, 3) := by decide +kernel
theorem dX9_isStill_28 : decode cX9_isStill 28 = .ok (.iconst 0, 1) := by decide +kernel
theorem dX9_isStill_29 : decode cX9_isStill 29 = .ok (.ireturn, 1) := by decide +kernel
theorem dX9_starts_0 : decode cX9_starts 0 = .ok (.aload_n 0, 1) := by decide +kernel
theorem dX9_starts_1 : decode cX9_starts 1 = .ok (.iconst 0, 1) := by decide +kernel
theorem dX9_starts_2 : decode cX9_starts 2 = .ok (.putfield 130, 3) := by decide +kernel
theorem dX9_starts_5 : decode cX9_starts 5 = .ok (.aload_n 0, 1) := by decide +kernel
theorem dX9_starts_6 : decode cX9_starts 6 = .ok (.getfield 28, 3) := by decide +kernel
theorem dX9_starts_9 : decode cX9_starts 9 = .ok (.iconst 0, 1) := by decide +kernel
theorem dX9_starts_10 : decode cX9_starts 10 = .ok (.iconst 0, 1) := by decide +kernel
theorem dX9_starts_11 : decode cX9_starts 11 = .ok (.iastore, 1) := by decide +kernel
theorem dX9_starts_12 : decode cX9_starts 12 = .ok (.aload_n 0, 1) := by decide +kernel
theorem dX9_starts_13 : decode cX9_starts 13 = .ok (.getfield 19, 3) := by decide +kernel
theorem dX9_starts_16 : decode cX9_starts 16 = .ok (.iconst 0, 1) := by decide +kernel
theorem dX9_starts_17 : decode cX9_starts 17 = .ok (.iconst 0, 1) := by decide +kernel
theorem dX9_starts_18 : decode cX9_starts 18 = .ok (.iastore, 1) := by decide +kernel
theorem dX9_starts_19 : decode cX9_starts 19 = .ok (.aload_n 0, 1) := by decide +kernel
theorem dX9_starts_20 : decode cX9_starts 20 = .ok (.getfield 19, 3) := by decide +kernel
theorem dX9_starts_23 : decode cX9_starts 23 = .ok (.iconst 1, 1) := by decide +kernel
theorem dX9_starts_24 : decode cX9_starts 24 = .ok (.iconst 0, 1) := by decide +kernel
theorem dX9_starts_25 : decode cX9_starts 25 = .ok (.iastore, 1) := by decide +kernel
theorem dX9_starts_26 : decode cX9_starts 26 = .ok (.aload_n 0, 1) := by decide +kernel
theorem dX9_starts_27 : decode cX9_starts 27 = .ok (.getfield 19, 3) := by decide +kernel
theorem dX9_starts_30 : decode cX9_starts 30 = .ok (.iconst 2, 1) := by decide +kernel
theorem dX9_starts_31 : decode cX9_starts 31 = .ok (.iconst 0, 1) := by decide +kernel
theorem dX9_starts_32 : decode cX9_starts 32 = .ok (.iastore, 1) := by decide +kernel
theorem dX9_starts_33 : decode cX9_starts 33 = .ok (.return_, 1) := by decide +kernel
set_option maxRecDepth 20000 in
theorem ggX9_mayGo_X9_canDo : GoodIn wsX9_mayGo wsX9_canDo := goodIn_r _ [9, 4, 10, 11, 12, 8, 13, 14, 15, 16, 17, 18, 19, 20, 21, 22, 39, 40, 41, 42, 43, 44, 45, 46, 47, 48, 49, 50, 51, 52, 53, 54, 55, 56, 57, 58, 59, 60] (by decide +kernel) (by decide +kernel)
set_option maxRecDepth 20000 in
theorem gX9_mayGo_X9_canDo : GoodIn wsX9_mayGo (wsV RX9 127 RX9 yX9_canDo wsX9_canDo) := goodIn_app (goodIn_of _ (by decide +kernel)) ggX9_mayGo_X9_canDo
set_option maxRecDepth 20000 in
theorem ggX9_mayGo_X9_areDependent : GoodIn wsX9_mayGo wsX9_areDependent := goodIn_r _ [26, 15, 16, 17, 8, 18, 14, 27, 28, 29, 30, 31, 32, 33, 34, 35, 36, 37, 38, 39, 40, 41, 42, 43, 44, 45, 46, 47, 48, 49, 50, 51, 52, 53, 54, 55, 56, 57, 58, 59, 60] (by decide +kernel) (by decide +kernel)
set_option maxRecDepth 20000 in
theorem gX9_mayGo_X9_areDependent : GoodIn wsX9_mayGo (wsV RX9 121 RX9 yX9_areDependent wsX9_areDependent) := goodIn_app (goodIn_of _ (by decide +kernel)) ggX9_mayGo_X9_areDependent
theorem dX9_mayGo_0 : decode cX9_mayGo 0 = .ok (.aload_n 0, 1) := by decide +kernel
theorem dX9_mayGo_1 : decode cX9_mayGo 1 = .ok (.iload_n 1, 1) := by decide +kernel
theorem dX9_mayGo_2 : decode cX9_mayGo 2 = .ok (.invokevirtual 127, 3) := by decide +kernel
theorem dX9_mayGo_5 : decode cX9_mayGo 5 = .ok (.ifCond .ne 5, 3) := by decide +kernel
theorem dX9_mayGo_8 : decode cX9_mayGo 8 = .ok (.iconst 0, 1) := by decide +kernel
theorem dX9_mayGo_9 : decode cX9_mayGo 9 = .ok (.ireturn, 1) := by decide +kernel
theorem dX9_mayGo_10 : decode cX9_mayGo 10 = .ok (.aload_n 0, 1) := by decide +kernel
theorem dX9_mayGo_11 : decode cX9_mayGo 11 = .ok (.getfield 130, 3) := by decide +kernel
theorem dX9_mayGo_14 : decode cX9_mayGo 14 = .ok (.iconst 1, 1) := by decide +kernel
theorem dX9_mayGo_15 : decode cX9_mayGo 15 = .ok (.isub, 1) := by decide +kernel
theorem dX9_mayGo_16 : decode cX9_mayGo 16 = .ok (.istore_n 2, 1) := by decide +kernel
theorem dX9_mayGo_17 : decode cX9_mayGo 17 = .ok (.iload_n 2, 1) := by decide +kernel
theorem dX9_mayGo_18 : decode cX9_mayGo 18 = .ok (.ifCond .lt 49, 3) := by decide +kernel
theorem dX9_mayGo_21 : decode cX9_mayGo 21 = .ok (.aload_n 0, 1) := by decide +kernel
theorem dX9_mayGo_22 : decode cX9_mayGo 22 = .ok (.aload_n 0, 1) := by decide +kernel
theorem dX9_mayGo_23 : decode cX9_mayGo 23 = .ok (.getfield 22, 3) := by decide +kernel
theorem dX9_mayGo_26 : decode cX9_mayGo 26 = .ok (.iload_n 2, 1) := by decide +kernel
theorem dX9_mayGo_27 : decode cX9_mayGo 27 = .ok (.iaload, 1) := by decide +kernel
theorem dX9_mayGo_28 : decode cX9_mayGo 28 = .ok (.aload_n 0, 1) := by decide +kernel
theorem dX9_mayGo_29 : decode cX9_mayGo 29 = .ok (.getfield 25, 3) := by decide +kernel
theorem dX9_mayGo_32 : decode cX9_mayGo 32 = .ok (.iload_n 2, 1) := by decide +kernel
theorem dX9_mayGo_33 : decode cX9_mayGo 33 = .ok (.iaload, 1) := by decide +kernel
theorem dX9_mayGo_34 : decode cX9_mayGo 34 = .ok (.iload_n 1, 1) := by decide +kernel
theorem dX9_mayGo_35 : decode cX9_mayGo 35 = .ok (.aload_n 0, 1) := by decide +kernel
theorem dX9_mayGo_36 : decode cX9_mayGo 36 = .ok (.getfield 19, 3) := by decide +kernel
theorem dX9_mayGo_39 : decode cX9_mayGo 39 = .ok (.iload_n 1, 1) := by decide +kernel
theorem dX9_mayGo_40 : decode cX9_mayGo 40 = .ok (.iaload, 1) := by decide +kernel
theorem dX9_mayGo_41 : decode cX9_mayGo 41 = .ok (.invokevirtual 121, 3) := by decide +kernel
theorem dX9_mayGo_44 : decode cX9_mayGo 44 = .ok (.ifCond .eq 5, 3) := by decide +kernel
theorem dX9_mayGo_47 : decode cX9_mayGo 47 = .ok (.iconst 1, 1) := by decide +kernel
theorem dX9_mayGo_48 : decode cX9_mayGo 48 = .ok (.ireturn, 1) := by decide +kernel
theorem dX9_mayGo_49 : decode cX9_mayGo 49 = .ok (.aload_n 0, 1) := by decide +kernel
theorem dX9_mayGo_50 : decode cX9_mayGo 50 = .ok (.getfield 22, 3) := by decide +kernel
theorem dX9_mayGo_53 : decode cX9_mayGo 53 = .ok (.iload_n 2, 1) := by decide +kernel
theorem dX9_mayGo_54 : decode cX9_mayGo 54 = .ok (.iaload, 1) := by decide +kernel
theorem dX9_mayGo_55 : decode cX9_mayGo 55 = .ok (.iload_n 1, 1) := by decide +kernel
theorem dX9_mayGo_56 : decode cX9_mayGo 56 = .ok (.if_icmp .le 5, 3) := by decide +kernel
theorem dX9_mayGo_59 : decode cX9_mayGo 59 = .ok (.iconst 0, 1) := by decide +kernel
theorem dX9_mayGo_60 : decode cX9_mayGo 60 = .ok (.ireturn, 1) := by decide +kernel
theorem dX9_mayGo_61 : decode cX9_mayGo 61 = .ok (.iinc 2 (-1), 3) := by decide +kernel
theorem dX9_mayGo_64 : decode cX9_mayGo 64 = .ok (.goto (-47), 3) := by decide +kernel
theorem dX9_mayGo_67 : decode cX9_mayGo 67 = .ok (.iconst 1, 1) := by decide +kernel
theorem dX9_mayGo_68 : decode cX9_mayGo 68 = .ok (.ireturn, 1) := by decide +kernel
set_option maxRecDepth 20000 in
theorem ggX9_goesOn_X9_isStill : GoodIn wsX9_goesOn wsX9_isStill := goodIn_r _ [10, 11, 12, 13, 9, 14, 5, 15, 16, 17, 18, 19, 20, 21, 22, 23, 24, 25, 26, 27, 48, 49, 50, 51, 52, 53, 54, 55, 56, 57, 58, 59, 60, 61, 62, 63, 64, 65, 66, 67, 68, 69] (by decide +kernel) (by decide +kernel)
set_option maxRecDepth 20000 in
theorem gX9_goesOn_X9_isStill : GoodIn wsX9_goesOn (wsV RX9 133 RX9 yX9_isStill wsX9_isStill) := goodIn_app (goodIn_of _ (by decide +kernel)) ggX9_goesOn_X9_isStill
set_option maxRecDepth 20000 in
theorem ggX9_goesOn_X9_mayGo : GoodIn wsX9_goesOn wsX9_mayGo := goodIn_r _ [31, 2, 3, 4, 5, 11, 12, 13, 9, 14, 15, 16, 17, 18, 19, 20, 21, 22, 23, 24, 25, 26, 27, 32, 33, 34, 35, 36, 37, 38, 39, 40, 41, 42, 43, 44, 45, 46, 47, 48, 49, 50, 51, 52, 53, 54, 55, 56, 57, 58, 59, 60, 61, 62, 63, 64, 65, 66, 67, 68, 69] (by decide +kernel) (by decide +kernel)
set_option maxRecDepth 20000 in
theorem gX9_goesOn_X9_mayGo : GoodIn wsX9_goesOn (wsV RX9 137 RX9 yX9_mayGo wsX9_mayGo) := goodIn_app (goodIn_of _ (by decide +kernel)) ggX9_goesOn_X9_mayGo
theorem dX9_goesOn_0 : decode cX9_goesOn 0 = .ok (.aload_n 0, 1) := by decide +kernel
theorem dX9_goesOn_1 : decode cX9_goesOn 1 = .ok (.getfield 28, 3) := by decide +kernel
theorem dX9_goesOn_4 : decode cX9_goesOn 4 = .ok (.aload_n 0, 1) := by decide +kernel
theorem dX9_goesOn_5 : decode cX9_goesOn 5 = .ok (.getfield 130, 3) := by decide +kernel
theorem dX9_goesOn_8 : decode cX9_goesOn 8 = .ok (.iaload, 1) := by decide +kernel
theorem dX9_goesOn_9 : decode cX9_goesOn 9 = .ok (.ifCond .ne 22, 3) := by decide +kernel
theorem dX9_goesOn_12 : decode cX9_goesOn 12 = .ok (.aload_n 0, 1) := by decide +kernel
theorem dX9_goesOn_13 : decode cX9_goesOn 13 = .ok (.invokevirtual 133, 3) := by decide +kernel
theorem dX9_goesOn_16 : decode cX9_goesOn 16 = .ok (.ifCond .eq 15, 3) := by decide +kernel
theorem dX9_goesOn_19 : decode cX9_goesOn 19 = .ok (.aload_n 0, 1) := by decide +kernel
theorem dX9_goesOn_20 : decode cX9_goesOn 20 = .ok (.getfield 28, 3) := by decide +kernel
theorem dX9_goesOn_23 : decode cX9_goesOn 23 = .ok (.aload_n 0, 1) := by decide +kernel
theorem dX9_goesOn_24 : decode cX9_goesOn 24 = .ok (.getfield 130, 3) := by decide +kernel
theorem dX9_goesOn_27 : decode cX9_goesOn 27 = .ok (.iconst 3, 1) := by decide +kernel
theorem dX9_goesOn_28 : decode cX9_goesOn 28 = .ok (.iastore, 1) := by decide +kernel
theorem dX9_goesOn_29 : decode cX9_goesOn 29 = .ok (.iconst 1, 1) := by decide +kernel
theorem dX9_goesOn_30 : decode cX9_goesOn 30 = .ok (.ireturn, 1) := by decide +kernel
theorem dX9_goesOn_31 : decode cX9_goesOn 31 = .ok (.aload_n 0, 1) := by decide +kernel
theorem dX9_goesOn_32 : decode cX9_goesOn 32 = .ok (.getfield 28, 3) := by decide +kernel
theorem dX9_goesOn_35 : decode cX9_goesOn 35 = .ok (.aload_n 0, 1) := by decide +kernel
theorem dX9_goesOn_36 : decode cX9_goesOn 36 = .ok (.getfield 130, 3) := by decide +kernel
theorem dX9_goesOn_39 : decode cX9_goesOn 39 = .ok (.iaload, 1) := by decide +kernel
theorem dX9_goesOn_40 : decode cX9_goesOn 40 = .ok (.istore_n 1, 1) := by decide +kernel
theorem dX9_goesOn_41 : decode cX9_goesOn 41 = .ok (.iload_n 1, 1) := by decide +kernel
theorem dX9_goesOn_42 : decode cX9_goesOn 42 = .ok (.iconst 3, 1) := by decide +kernel
theorem dX9_goesOn_43 : decode cX9_goesOn 43 = .ok (.if_icmp .ge 17, 3) := by decide +kernel
theorem dX9_goesOn_46 : decode cX9_goesOn 46 = .ok (.aload_n 0, 1) := by decide +kernel
theorem dX9_goesOn_47 : decode cX9_goesOn 47 = .ok (.iload_n 1, 1) := by decide +kernel
theorem dX9_goesOn_48 : decode cX9_goesOn 48 = .ok (.invokevirtual 137, 3) := by decide +kernel
theorem dX9_goesOn_51 : decode cX9_goesOn 51 = .ok (.ifCond .ne 9, 3) := by decide +kernel
theorem dX9_goesOn_54 : decode cX9_goesOn 54 = .ok (.iinc 1 1, 3) := by decide +kernel
theorem dX9_goesOn_57 : decode cX9_goesOn 57 = .ok (.goto (-16), 3) := by decide +kernel
theorem dX9_goesOn_60 : decode cX9_goesOn 60 = .ok (.iload_n 1, 1) := by decide +kernel
theorem dX9_goesOn_61 : decode cX9_goesOn 61 = .ok (.iconst 3, 1) := by decide +kernel
theorem dX9_goesOn_62 : decode cX9_goesOn 62 = .ok (.if_icmp .ge 73, 3) := by decide +kernel
theorem dX9_goesOn_65 : decode cX9_goesOn 65 = .ok (.aload_n 0, 1) := by decide +kernel
theorem dX9_goesOn_66 : decode cX9_goesOn 66 = .ok (.getfield 28, 3) := by decide +kernel
theorem dX9_goesOn_69 : decode cX9_goesOn 69 = .ok (.aload_n 0, 1) := by decide +kernel
theorem dX9_goesOn_70 : decode cX9_goesOn 70 = .ok (.getfield 130, 3) := by decide +kernel
theorem dX9_goesOn_73 : decode cX9_goesOn 73 = .ok (.iload_n 1, 1) := by decide +kernel
theorem dX9_goesOn_74 : decode cX9_goesOn 74 = .ok (.iconst 1, 1) := by decide +kernel
theorem dX9_goesOn_75 : decode cX9_goesOn 75 = .ok (.iadd, 1) := by decide +kernel
theorem dX9_goesOn_76 : decode cX9_goesOn 76 = .ok (.iastore, 1) := by decide +kernel
theorem dX9_goesOn_77 : decode cX9_goesOn 77 = .ok (.aload_n 0, 1) := by decide +kernel
theorem dX9_goesOn_78 : decode cX9_goesOn 78 = .ok (.getfield 22, 3) := by decide +kernel
theorem dX9_goesOn_81 : decode cX9_goesOn 81 = .ok (.aload_n 0, 1) := by decide +kernel
theorem dX9_goesOn_82 : decode cX9_goesOn 82 = .ok (.getfield 130, 3) := by decide +kernel
theorem dX9_goesOn_85 : decode cX9_goesOn 85 = .ok (.iload_n 1, 1) := by decide +kernel
theorem dX9_goesOn_86 : decode cX9_goesOn 86 = .ok (.iastore, 1) := by decide +kernel
theorem dX9_goesOn_87 : decode cX9_goesOn 87 = .ok (.aload_n 0, 1) := by decide +kernel
theorem dX9_goesOn_88 : decode cX9_goesOn 88 = .ok (.getfield 25, 3) := by decide +kernel
theorem dX9_goesOn_91 : decode cX9_goesOn 91 = .ok (.aload_n 0, 1) := by decide +kernel
theorem dX9_goesOn_92 : decode cX9_goesOn 92 = .ok (.getfield 130, 3) := by decide +kernel
theorem dX9_goesOn_95 : decode cX9_goesOn 95 = .ok (.aload_n 0, 1) := by decide +kernel
theorem dX9_goesOn_96 : decode cX9_goesOn 96 = .ok (.getfield 19, 3) := by decide +kernel
theorem dX9_goesOn_99 : decode cX9_goesOn 99 = .ok (.iload_n 1, 1) := by decide +kernel
theorem dX9_goesOn_100 : decode cX9_goesOn 100 = .ok (.iaload, 1) := by decide +kernel
theorem dX9_goesOn_101 : decode cX9_goesOn 101 = .ok (.iastore, 1) := by decide +kernel
theorem dX9_goesOn_102 : decode cX9_goesOn 102 = .ok (.aload_n 0, 1) := by decide +kernel
theorem dX9_goesOn_103 : decode cX9_goesOn 103 = .ok (.getfield 19, 3) := by decide +kernel
theorem dX9_goesOn_106 : decode cX9_goesOn 106 = .ok (.iload_n 1, 1) := by decide +kernel
theorem dX9_goesOn_107 : decode cX9_goesOn 107 = .ok (.dup2, 1) := by decide +kernel
theorem dX9_goesOn_108 : decode cX9_goesOn 108 = .ok (.iaload, 1) := by decide +kernel
theorem dX9_goesOn_109 : decode cX9_goesOn 109 = .ok (.iconst 1, 1) := by decide +kernel
theorem dX9_goesOn_110 : decode cX9_goesOn 110 = .ok (.iadd, 1) := by decide +kernel
theorem dX9_goesOn_111 : decode cX9_goesOn 111 = .ok (.iastore, 1) := by decide +kernel
theorem dX9_goesOn_112 : decode cX9_goesOn 112 = .ok (.aload_n 0, 1) := by decide +kernel
theorem dX9_goesOn_113 : decode cX9_goesOn 113 = .ok (.dup, 1) := by decide +kernel
theorem dX9_goesOn_114 : decode cX9_goesOn 114 = .ok (.getfield 130, 3) := by decide +kernel
theorem dX9_goesOn_117 : decode cX9_goesOn 117 = .ok (.iconst 1, 1) := by decide +kernel
theorem dX9_goesOn_118 : decode cX9_goesOn 118 = .ok (.iadd, 1) := by decide +kernel
theorem dX9_goesOn_119 : decode cX9_goesOn 119 = .ok (.putfield 130, 3) := by decide +kernel
theorem dX9_goesOn_122 : decode cX9_goesOn 122 = .ok (.aload_n 0, 1) := by decide +kernel
theorem dX9_goesOn_123 : decode cX9_goesOn 123 = .ok (.getfield 28, 3) := by decide +kernel
theorem dX9_goesOn_126 : decode cX9_goesOn 126 = .ok (.aload_n 0, 1) := by decide +kernel
theorem dX9_goesOn_127 : decode cX9_goesOn 127 = .ok (.getfield 130, 3) := by decide +kernel
theorem dX9_goesOn_130 : decode cX9_goesOn 130 = .ok (.iconst 0, 1) := by decide +kernel
theorem dX9_goesOn_131 : decode cX9_goesOn 131 = .ok (.iastore, 1) := by decide +kernel
theorem dX9_goesOn_132 : decode cX9_goesOn 132 = .ok (.goto 40, 3) := by decide +kernel
theorem dX9_goesOn_135 : decode cX9_goesOn 135 = .ok (.aload_n 0, 1) := by decide +kernel
theorem dX9_goesOn_136 : decode cX9_goesOn 136 = .ok (.getfield 130, 3) := by decide +kernel
theorem dX9_goesOn_139 : decode cX9_goesOn 139 = .ok (.ifCond .ne 5, 3) := by decide +kernel
theorem dX9_goesOn_142 : decode cX9_goesOn 142 = .ok (.iconst 0, 1) := by decide +kernel
theorem dX9_goesOn_143 : decode cX9_goesOn 143 = .ok (.ireturn, 1) := by decide +kernel
theorem dX9_goesOn_144 : decode cX9_goesOn 144 = .ok (.aload_n 0, 1) := by decide +kernel
theorem dX9_goesOn_145 : decode cX9_goesOn 145 = .ok (.dup, 1) := by decide +kernel
theorem dX9_goesOn_146 : decode cX9_goesOn 146 = .ok (.getfield 130, 3) := by decide +kernel
theorem dX9_goesOn_149 : decode cX9_goesOn 149 = .ok (.iconst 1, 1) := by decide +kernel
theorem dX9_goesOn_150 : decode cX9_goesOn 150 = .ok (.isub, 1) := by decide +kernel
theorem dX9_goesOn_151 : decode cX9_goesOn 151 = .ok (.putfield 130, 3) := by decide +kernel
theorem dX9_goesOn_154 : decode cX9_goesOn 154 = .ok (.aload_n 0, 1) := by decide +kernel
theorem dX9_goesOn_155 : decode cX9_goesOn 155 = .ok (.getfield 19, 3) := by decide +kernel
theorem dX9_goesOn_158 : decode cX9_goesOn 158 = .ok (.aload_n 0, 1) := by decide +kernel
theorem dX9_goesOn_159 : decode cX9_goesOn 159 = .ok (.getfield 22, 3) := by decide +kernel
theorem dX9_goesOn_162 : decode cX9_goesOn 162 = .ok (.aload_n 0, 1) := by decide +kernel
theorem dX9_goesOn_163 : decode cX9_goesOn 163 = .ok (.getfield 130, 3) := by decide +kernel
theorem dX9_goesOn_166 : decode cX9_goesOn 166 = .ok (.iaload, 1) := by decide +kernel
theorem dX9_goesOn_167 : decode cX9_goesOn 167 = .ok (.dup2, 1) := by decide +kernel
theorem dX9_goesOn_168 : decode cX9_goesOn 168 = .ok (.iaload, 1) := by decide +kernel
theorem dX9_goesOn_169 : decode cX9_goesOn 169 = .ok (.iconst 1, 1) := by decide +kernel
theorem dX9_goesOn_170 : decode cX9_goesOn 170 = .ok (.isub, 1) := by decide +kernel
theorem dX9_goesOn_171 : decode cX9_goesOn 171 = .ok (.iastore, 1) := by decide +kernel
theorem dX9_goesOn_172 : decode cX9_goesOn 172 = .ok (.goto (-172), 3) := by decide +kernel
theorem dX9_valuesBegin_0 : decode cX9_valuesBegin 0 = .ok (.aload_n 0, 1) := by decide +kernel
theorem dX9_valuesBegin_1 : decode cX9_valuesBegin 1 = .ok (.iconst 0, 1) := by decide +kernel
theorem dX9_valuesBegin_2 : decode cX9_valuesBegin 2 = .ok (.putfield 140, 3) := by decide +kernel
theorem dX9_valuesBegin_5 : decode cX9_valuesBegin 5 = .ok (.iconst 0, 1) := by decide +kernel
theorem dX9_valuesBegin_6 : decode cX9_valuesBegin 6 = .ok (.istore_n 1, 1) := by decide +kernel
theorem dX9_valuesBegin_7 : decode cX9_valuesBegin 7 = .ok (.iload_n 1, 1) := by decide +kernel
theorem dX9_valuesBegin_8 : decode cX9_valuesBegin 8 = .ok (.iconst 4, 1) := by decide +kernel
theorem dX9_valuesBegin_9 : decode cX9_valuesBegin 9 = .ok (.if_icmp .ge 24, 3) := by decide +kernel
theorem dX9_valuesBegin_12 : decode cX9_valuesBegin 12 = .ok (.aload_n 0, 1) := by decide +kernel
theorem dX9_valuesBegin_13 : decode cX9_valuesBegin 13 = .ok (.getfield 31, 3) := by decide +kernel
theorem dX9_valuesBegin_16 : decode cX9_valuesBegin 16 = .ok (.iload_n 1, 1) := by decide +kernel
theorem dX9_valuesBegin_17 : decode cX9_valuesBegin 17 = .ok (.aload_n 0, 1) := by decide +kernel
theorem dX9_valuesBegin_18 : decode cX9_valuesBegin 18 = .ok (.getfield 7, 3) := by decide +kernel
theorem dX9_valuesBegin_21 : decode cX9_valuesBegin 21 = .ok (.bipush 39, 2) := by decide +kernel
theorem dX9_valuesBegin_23 : decode cX9_valuesBegin 23 = .ok (.iload_n 1, 1) := by decide +kernel
theorem dX9_valuesBegin_24 : decode cX9_valuesBegin 24 = .ok (.iadd, 1) := by decide +kernel
theorem dX9_valuesBegin_25 : decode cX9_valuesBegin 25 = .ok (.iaload, 1) := by decide +kernel
theorem dX9_valuesBegin_26 : decode cX9_valuesBegin 26 = .ok (.iastore, 1) := by decide +kernel
theorem dX9_valuesBegin_27 : decode cX9_valuesBegin 27 = .ok (.iinc 1 1, 3) := by decide +kernel
theorem dX9_valuesBegin_30 : decode cX9_valuesBegin 30 = .ok (.goto (-23), 3) := by decide +kernel
theorem dX9_valuesBegin_33 : decode cX9_valuesBegin 33 = .ok (.return_, 1) := by decide +kernel
set_option maxRecDepth 20000 in
theorem ggX9_doesStep_X9_its : GoodIn wsX9_doesStep wsX9_its := goodIn_r _ [7, 8, 9, 10, 11, 12, 13, 14, 15, 16, 17, 18, 19, 20, 21, 22, 23, 24, 25, 26, 27, 28, 29, 30] (by decide +kernel) (by decide +kernel)
set_option maxRecDepth 20000 in
theorem gX9_doesStep_X9_its : GoodIn wsX9_doesStep (wsV RX9 97 RX9 yX9_its wsX9_its) := goodIn_app (goodIn_of _ (by decide +kernel)) ggX9_doesStep_X9_its
theorem dX9_doesStep_0 : decode cX9_doesStep 0 = .ok (.aload_n 0, 1) := by decide +kernel
theorem dX9_doesStep_1 : decode cX9_doesStep 1 = .ok (.iload_n 1, 1) := by decide +kernel
theorem dX9_doesStep_2 : decode cX9_doesStep 2 = .ok (.iload_n 2, 1) := by decide +kernel
theorem dX9_doesStep_3 : decode cX9_doesStep 3 = .ok (.iconst 1, 1) := by decide +kernel
theorem dX9_doesStep_4 : decode cX9_doesStep 4 = .ok (.invokevirtual 97, 3) := by decide +kernel
theorem dX9_doesStep_7 : decode cX9_doesStep 7 = .ok (.istore_n 3, 1) := by decide +kernel
theorem dX9_doesStep_8 : decode cX9_doesStep 8 = .ok (.aload_n 0, 1) := by decide +kernel
theorem dX9_doesStep_9 : decode cX9_doesStep 9 = .ok (.iload_n 1, 1) := by decide +kernel
theorem dX9_doesStep_10 : decode cX9_doesStep 10 = .ok (.iload_n 2, 1) := by decide +kernel
theorem dX9_doesStep_11 : decode cX9_doesStep 11 = .ok (.iconst 2, 1) := by decide +kernel
theorem dX9_doesStep_12 : decode cX9_doesStep 12 = .ok (.invokevirtual 97, 3) := by decide +kernel
theorem dX9_doesStep_15 : decode cX9_doesStep 15 = .ok (.istore 4, 2) := by decide +kernel
theorem dX9_doesStep_17 : decode cX9_doesStep 17 = .ok (.aload_n 0, 1) := by decide +kernel
theorem dX9_doesStep_18 : decode cX9_doesStep 18 = .ok (.iload_n 1, 1) := by decide +kernel
theorem dX9_doesStep_19 : decode cX9_doesStep 19 = .ok (.iload_n 2, 1) := by decide +kernel
theorem dX9_doesStep_20 : decode cX9_doesStep 20 = .ok (.iconst 0, 1) := by decide +kernel
theorem dX9_doesStep_21 : decode cX9_doesStep 21 = .ok (.invokevirtual 97, 3) := by decide +kernel
theorem dX9_doesStep_24 : decode cX9_doesStep 24 = .ok (.tableswitch 108 0 3 #[32, 43, 64, 80], 32) := by decide +kernel
theorem dX9_doesStep_56 : decode cX9_doesStep 56 = .ok (.aload_n 0, 1) := by decide +kernel
theorem dX9_doesStep_57 : decode cX9_doesStep 57 = .ok (.getfield 31, 3) := by decide +kernel
theorem dX9_doesStep_60 : decode cX9_doesStep 60 = .ok (.iload_n 3, 1) := by decide +kernel
theorem dX9_doesStep_61 : decode cX9_doesStep 61 = .ok (.iload 4, 2) := by decide +kernel
theorem dX9_doesStep_63 : decode cX9_doesStep 63 = .ok (.iastore, 1) := by decide +kernel
theorem dX9_doesStep_64 : decode cX9_doesStep 64 = .ok (.goto 68, 3) := by decide +kernel
theorem dX9_doesStep_67 : decode cX9_doesStep 67 = .ok (.aload_n 0, 1) := by decide +kernel
theorem dX9_doesStep_68 : decode cX9_doesStep 68 = .ok (.getfield 31, 3) := by decide +kernel
theorem dX9_doesStep_71 : decode cX9_doesStep 71 = .ok (.iload_n 3, 1) := by decide +kernel
theorem dX9_doesStep_72 : decode cX9_doesStep 72 = .ok (.aload_n 0, 1) := by decide +kernel
theorem dX9_doesStep_73 : decode cX9_doesStep 73 = .ok (.getfield 31, 3) := by decide +kernel
theorem dX9_doesStep_76 : decode cX9_doesStep 76 = .ok (.iload_n 3, 1) := by decide +kernel
theorem dX9_doesStep_77 : decode cX9_doesStep 77 = .ok (.iaload, 1) := by decide +kernel
theorem dX9_doesStep_78 : decode cX9_doesStep 78 = .ok (.iload 4, 2) := by decide +kernel
theorem dX9_doesStep_80 : decode cX9_doesStep 80 = .ok (.iadd, 1) := by decide +kernel
theorem dX9_doesStep_81 : decode cX9_doesStep 81 = .ok (.bipush 10, 2) := by decide +kernel
theorem dX9_doesStep_83 : decode cX9_doesStep 83 = .ok (.irem, 1) := by decide +kernel
theorem dX9_doesStep_84 : decode cX9_doesStep 84 = .ok (.iastore, 1) := by decide +kernel
theorem dX9_doesStep_85 : decode cX9_doesStep 85 = .ok (.goto 47, 3) := by decide +kernel
theorem dX9_doesStep_88 : decode cX9_doesStep 88 = .ok (.aload_n 0, 1) := by decide +kernel
theorem dX9_doesStep_89 : decode cX9_doesStep 89 = .ok (.getfield 31, 3) := by decide +kernel
theorem dX9_doesStep_92 : decode cX9_doesStep 92 = .ok (.iload_n 3, 1) := by decide +kernel
theorem dX9_doesStep_93 : decode cX9_doesStep 93 = .ok (.aload_n 0, 1) := by decide +kernel
theorem dX9_doesStep_94 : decode cX9_doesStep 94 = .ok (.getfield 31, 3) := by decide +kernel
theorem dX9_doesStep_97 : decode cX9_doesStep 97 = .ok (.iload 4, 2) := by decide +kernel
theorem dX9_doesStep_99 : decode cX9_doesStep 99 = .ok (.iaload, 1) := by decide +kernel
theorem dX9_doesStep_100 : decode cX9_doesStep 100 = .ok (.iastore, 1) := by decide +kernel
theorem dX9_doesStep_101 : decode cX9_doesStep 101 = .ok (.goto 31, 3) := by decide +kernel
theorem dX9_doesStep_104 : decode cX9_doesStep 104 = .ok (.aload_n 0, 1) := by decide +kernel
theorem dX9_doesStep_105 : decode cX9_doesStep 105 = .ok (.dup, 1) := by decide +kernel
theorem dX9_doesStep_106 : decode cX9_doesStep 106 = .ok (.getfield 140, 3) := by decide +kernel
theorem dX9_doesStep_109 : decode cX9_doesStep 109 = .ok (.aload_n 0, 1) := by decide +kernel
theorem dX9_doesStep_110 : decode cX9_doesStep 110 = .ok (.getfield 31, 3) := by decide +kernel
theorem dX9_doesStep_113 : decode cX9_doesStep 113 = .ok (.iload_n 3, 1) := by decide +kernel
theorem dX9_doesStep_114 : decode cX9_doesStep 114 = .ok (.iaload, 1) := by decide +kernel
theorem dX9_doesStep_115 : decode cX9_doesStep 115 = .ok (.iload 4, 2) := by decide +kernel
theorem dX9_doesStep_117 : decode cX9_doesStep 117 = .ok (.if_icmp .ne 7, 3) := by decide +kernel
theorem dX9_doesStep_120 : decode cX9_doesStep 120 = .ok (.iconst 0, 1) := by decide +kernel
theorem dX9_doesStep_121 : decode cX9_doesStep 121 = .ok (.goto 4, 3) := by decide +kernel
theorem dX9_doesStep_124 : decode cX9_doesStep 124 = .ok (.iconst 1, 1) := by decide +kernel
theorem dX9_doesStep_125 : decode cX9_doesStep 125 = .ok (.iadd, 1) := by decide +kernel
theorem dX9_doesStep_126 : decode cX9_doesStep 126 = .ok (.putfield 140, 3) := by decide +kernel
theorem dX9_doesStep_129 : decode cX9_doesStep 129 = .ok (.goto 3, 3) := by decide +kernel
theorem dX9_doesStep_132 : decode cX9_doesStep 132 = .ok (.return_, 1) := by decide +kernel
theorem dX9_told4_0 : decode cX9_told4 0 = .ok (.sipush 1000, 3) := by decide +kernel
theorem dX9_told4_3 : decode cX9_told4 3 = .ok (.iload_n 1, 1) := by decide +kernel
theorem dX9_told4_4 : decode cX9_told4 4 = .ok (.imul, 1) := by decide +kernel
theorem dX9_told4_5 : decode cX9_told4 5 = .ok (.bipush 100, 2) := by decide +kernel
theorem dX9_told4_7 : decode cX9_told4 7 = .ok (.iload_n 2, 1) := by decide +kernel
theorem dX9_told4_8 : decode cX9_told4 8 = .ok (.imul, 1) := by decide +kernel
theorem dX9_told4_9 : decode cX9_told4 9 = .ok (.iadd, 1) := by decide +kernel
theorem dX9_told4_10 : decode cX9_told4 10 = .ok (.bipush 10, 2) := by decide +kernel
theorem dX9_told4_12 : decode cX9_told4 12 = .ok (.iload_n 3, 1) := by decide +kernel
theorem dX9_told4_13 : decode cX9_told4 13 = .ok (.imul, 1) := by decide +kernel
theorem dX9_told4_14 : decode cX9_told4 14 = .ok (.iadd, 1) := by decide +kernel
theorem dX9_told4_15 : decode cX9_told4 15 = .ok (.iload 4, 2) := by decide +kernel
theorem dX9_told4_17 : decode cX9_told4 17 = .ok (.iadd, 1) := by decide +kernel
theorem dX9_told4_18 : decode cX9_told4 18 = .ok (.ireturn, 1) := by decide +kernel
set_option maxRecDepth 20000 in
theorem ggX9_endOf_X9_valuesBegin : GoodIn wsX9_endOf wsX9_valuesBegin := goodIn_r _ [9, 10, 4, 11, 24, 25, 26, 27, 28, 29, 30, 31, 32, 33, 34, 35, 36, 37, 38, 39, 40, 41, 42, 43, 44, 45] (by decide +kernel) (by decide +kernel)
set_option maxRecDepth 20000 in
theorem gX9_endOf_X9_valuesBegin : GoodIn wsX9_endOf (wsV RX9 143 RX9 yX9_valuesBegin wsX9_valuesBegin) := goodIn_app (goodIn_of _ (by decide +kernel)) ggX9_endOf_X9_valuesBegin
set_option maxRecDepth 20000 in
theorem ggX9_endOf_X9_doesStep : GoodIn wsX9_endOf wsX9_doesStep := goodIn_r _ [15, 4, 10, 16, 17, 18, 8, 19, 11, 24, 25, 26, 27, 28, 29, 30, 31, 32, 33, 34, 35, 36, 37, 38, 39, 40, 41, 42, 43, 44, 45] (by decide +kernel) (by decide +kernel)
set_option maxRecDepth 20000 in
theorem gX9_endOf_X9_doesStep : GoodIn wsX9_endOf (wsV RX9 146 RX9 yX9_doesStep wsX9_doesStep) := goodIn_app (goodIn_of _ (by decide +kernel)) ggX9_endOf_X9_doesStep
set_option maxRecDepth 20000 in
theorem ggX9_endOf_X9_told4 : GoodIn wsX9_endOf wsX9_told4 := goodIn_r _ [23] (by decide +kernel) (by decide +kernel)
set_option maxRecDepth 20000 in
theorem gX9_endOf_X9_told4 : GoodIn wsX9_endOf (wsV RX9 150 RX9 yX9_told4 wsX9_told4) := goodIn_app (goodIn_of _ (by decide +kernel)) ggX9_endOf_X9_told4
theorem dX9_endOf_0 : decode cX9_endOf 0 = .ok (.aload_n 0, 1) := by decide +kernel
theorem dX9_endOf_1 : decode cX9_endOf 1 = .ok (.invokevirtual 143, 3) := by decide +kernel
theorem dX9_endOf_4 : decode cX9_endOf 4 = .ok (.iconst 0, 1) := by decide +kernel
theorem dX9_endOf_5 : decode cX9_endOf 5 = .ok (.istore_n 1, 1) := by decide +kernel
theorem dX9_endOf_6 : decode cX9_endOf 6 = .ok (.iload_n 1, 1) := by decide +kernel
theorem dX9_endOf_7 : decode cX9_endOf 7 = .ok (.aload_n 0, 1) := by decide +kernel
theorem dX9_endOf_8 : decode cX9_endOf 8 = .ok (.getfield 130, 3) := by decide +kernel
theorem dX9_endOf_11 : decode cX9_endOf 11 = .ok (.if_icmp .ge 25, 3) := by decide +kernel
theorem dX9_endOf_14 : decode cX9_endOf 14 = .ok (.aload_n 0, 1) := by decide +kernel
theorem dX9_endOf_15 : decode cX9_endOf 15 = .ok (.aload_n 0, 1) := by decide +kernel
theorem dX9_endOf_16 : decode cX9_endOf 16 = .ok (.getfield 22, 3) := by decide +kernel
theorem dX9_endOf_19 : decode cX9_endOf 19 = .ok (.iload_n 1, 1) := by decide +kernel
theorem dX9_endOf_20 : decode cX9_endOf 20 = .ok (.iaload, 1) := by decide +kernel
theorem dX9_endOf_21 : decode cX9_endOf 21 = .ok (.aload_n 0, 1) := by decide +kernel
theorem dX9_endOf_22 : decode cX9_endOf 22 = .ok (.getfield 25, 3) := by decide +kernel
theorem dX9_endOf_25 : decode cX9_endOf 25 = .ok (.iload_n 1, 1) := by decide +kernel
theorem dX9_endOf_26 : decode cX9_endOf 26 = .ok (.iaload, 1) := by decide +kernel
theorem dX9_endOf_27 : decode cX9_endOf 27 = .ok (.invokevirtual 146, 3) := by decide +kernel
theorem dX9_endOf_30 : decode cX9_endOf 30 = .ok (.iinc 1 1, 3) := by decide +kernel
theorem dX9_endOf_33 : decode cX9_endOf 33 = .ok (.goto (-27), 3) := by decide +kernel
theorem dX9_endOf_36 : decode cX9_endOf 36 = .ok (.aload_n 0, 1) := by decide +kernel
theorem dX9_endOf_37 : decode cX9_endOf 37 = .ok (.aload_n 0, 1) := by decide +kernel
theorem dX9_endOf_38 : decode cX9_endOf 38 = .ok (.getfield 31, 3) := by decide +kernel
theorem dX9_endOf_41 : decode cX9_endOf 41 = .ok (.iconst 0, 1) := by decide +kernel
theorem dX9_endOf_42 : decode cX9_endOf 42 = .ok (.iaload, 1) := by decide +kernel
theorem dX9_endOf_43 : decode cX9_endOf 43 = .ok (.aload_n 0, 1) := by decide +kernel
theorem dX9_endOf_44 : decode cX9_endOf 44 = .ok (.getfield 31, 3) := by decide +kernel
theorem dX9_endOf_47 : decode cX9_endOf 47 = .ok (.iconst 1, 1) := by decide +kernel
theorem dX9_endOf_48 : decode cX9_endOf 48 = .ok (.iaload, 1) := by decide +kernel
theorem dX9_endOf_49 : decode cX9_endOf 49 = .ok (.aload_n 0, 1) := by decide +kernel
theorem dX9_endOf_50 : decode cX9_endOf 50 = .ok (.getfield 31, 3) := by decide +kernel
theorem dX9_endOf_53 : decode cX9_endOf 53 = .ok (.iconst 2, 1) := by decide +kernel
theorem dX9_endOf_54 : decode cX9_endOf 54 = .ok (.iaload, 1) := by decide +kernel
theorem dX9_endOf_55 : decode cX9_endOf 55 = .ok (.aload_n 0, 1) := by decide +kernel
theorem dX9_endOf_56 : decode cX9_endOf 56 = .ok (.getfield 31, 3) := by decide +kernel
theorem dX9_endOf_59 : decode cX9_endOf 59 = .ok (.iconst 3, 1) := by decide +kernel
theorem dX9_endOf_60 : decode cX9_endOf 60 = .ok (.iaload, 1) := by decide +kernel
theorem dX9_endOf_61 : decode cX9_endOf 61 = .ok (.invokevirtual 150, 3) := by decide +kernel
theorem dX9_endOf_64 : decode cX9_endOf 64 = .ok (.ireturn, 1) := by decide +kernel
set_option maxRecDepth 20000 in
theorem ggX9_allSteps_X9_many : GoodIn wsX9_allSteps wsX9_many := goodIn_r _ [5, 6, 7, 8, 9, 10, 11, 12, 13, 14, 15, 16, 17, 18, 19, 20, 21, 22, 23, 24, 25, 26, 27, 28] (by decide +kernel) (by decide +kernel)
set_option maxRecDepth 20000 in
theorem gX9_allSteps_X9_many : GoodIn wsX9_allSteps (wsV RX9 73 RX9 yX9_many wsX9_many) := goodIn_app (goodIn_of _ (by decide +kernel)) ggX9_allSteps_X9_many
theorem dX9_allSteps_0 : decode cX9_allSteps 0 = .ok (.aload_n 0, 1) := by decide +kernel
theorem dX9_allSteps_1 : decode cX9_allSteps 1 = .ok (.iconst 0, 1) := by decide +kernel
theorem dX9_allSteps_2 : decode cX9_allSteps 2 = .ok (.invokevirtual 73, 3) := by decide +kernel
theorem dX9_allSteps_5 : decode cX9_allSteps 5 = .ok (.aload_n 0, 1) := by decide +kernel
theorem dX9_allSteps_6 : decode cX9_allSteps 6 = .ok (.iconst 1, 1) := by decide +kernel
theorem dX9_allSteps_7 : decode cX9_allSteps 7 = .ok (.invokevirtual 73, 3) := by decide +kernel
theorem dX9_allSteps_10 : decode cX9_allSteps 10 = .ok (.iadd, 1) := by decide +kernel
theorem dX9_allSteps_11 : decode cX9_allSteps 11 = .ok (.aload_n 0, 1) := by decide +kernel
theorem dX9_allSteps_12 : decode cX9_allSteps 12 = .ok (.iconst 2, 1) := by decide +kernel
theorem dX9_allSteps_13 : decode cX9_allSteps 13 = .ok (.invokevirtual 73, 3) := by decide +kernel
theorem dX9_allSteps_16 : decode cX9_allSteps 16 = .ok (.iadd, 1) := by decide +kernel
theorem dX9_allSteps_17 : decode cX9_allSteps 17 = .ok (.ireturn, 1) := by decide +kernel
set_option maxRecDepth 20000 in
theorem ggX9_findsAll_X9_starts : GoodIn wsX9_findsAll wsX9_starts := goodIn_r _ [9, 3, 10, 11, 80, 81, 82, 83, 84, 85, 86, 87, 88, 89, 90, 91, 92, 93, 94, 95, 96, 97, 98, 99, 100, 101] (by decide +kernel) (by decide +kernel)
set_option maxRecDepth 20000 in
theorem gX9_findsAll_X9_starts : GoodIn wsX9_findsAll (wsV RX9 154 RX9 yX9_starts wsX9_starts) := goodIn_app (goodIn_of _ (by decide +kernel)) ggX9_findsAll_X9_starts
set_option maxRecDepth 20000 in
theorem ggX9_findsAll_X9_goesOn : GoodIn wsX9_findsAll wsX9_goesOn := goodIn_r _ [15, 10, 3, 16, 17, 11, 18, 19, 20, 8, 21, 22, 23, 24, 25, 26, 27, 28, 29, 30, 31, 32, 33, 34, 35, 36, 37, 38, 39, 40, 41, 42, 43, 44, 45, 46, 47, 48, 49, 50, 51, 52, 53, 54, 55, 56, 57, 58, 80, 81, 82, 83, 84, 85, 86, 87, 88, 89, 90, 91, 92, 93, 94, 95, 96, 97, 98, 99, 100, 101] (by decide +kernel) (by decide +kernel)
set_option maxRecDepth 20000 in
theorem gX9_findsAll_X9_goesOn : GoodIn wsX9_findsAll (wsV RX9 157 RX9 yX9_goesOn wsX9_goesOn) := goodIn_app (goodIn_of _ (by decide +kernel)) ggX9_findsAll_X9_goesOn
set_option maxRecDepth 20000 in
theorem ggX9_findsAll_X9_endOf : GoodIn wsX9_findsAll wsX9_endOf := goodIn_r _ [62, 3, 16, 17, 63, 64, 65, 66, 8, 67, 4, 30, 68, 69, 70, 71, 31, 32, 33, 34, 72, 73, 74, 75, 80, 81, 82, 83, 84, 85, 86, 87, 88, 89, 90, 91, 92, 93, 94, 95, 96, 97, 98, 99, 100, 101] (by decide +kernel) (by decide +kernel)
set_option maxRecDepth 20000 in
theorem gX9_findsAll_X9_endOf : GoodIn wsX9_findsAll (wsV RX9 160 RX9 yX9_endOf wsX9_endOf) := goodIn_app (goodIn_of _ (by decide +kernel)) ggX9_findsAll_X9_endOf
set_option maxRecDepth 20000 in
theorem ggX9_findsAll_X9_allSteps : GoodIn wsX9_findsAll wsX9_allSteps := goodIn_r _ [79, 26, 27, 28, 8, 29, 30, 80, 81, 82, 83, 84, 85, 86, 87, 88, 89, 90, 91, 92, 93, 94, 95, 96, 97, 98, 99, 100, 101] (by decide +kernel) (by decide +kernel)
set_option maxRecDepth 20000 in
theorem gX9_findsAll_X9_allSteps : GoodIn wsX9_findsAll (wsV RX9 164 RX9 yX9_allSteps wsX9_allSteps) := goodIn_app (goodIn_of _ (by decide +kernel)) ggX9_findsAll_X9_allSteps
theorem dX9_findsAll_0 : decode cX9_findsAll 0 = .ok (.iconst 0, 1) := by decide +kernel
theorem dX9_findsAll_1 : decode cX9_findsAll 1 = .ok (.istore_n 1, 1) := by decide +kernel
theorem dX9_findsAll_2 : decode cX9_findsAll 2 = .ok (.iload_n 1, 1) := by decide +kernel
theorem dX9_findsAll_3 : decode cX9_findsAll 3 = .ok (.sipush 10000, 3) := by decide +kernel
theorem dX9_findsAll_6 : decode cX9_findsAll 6 = .ok (.if_icmp .ge 16, 3) := by decide +kernel
theorem dX9_findsAll_9 : decode cX9_findsAll 9 = .ok (.aload_n 0, 1) := by decide +kernel
theorem dX9_findsAll_10 : decode cX9_findsAll 10 = .ok (.getfield 34, 3) := by decide +kernel
theorem dX9_findsAll_13 : decode cX9_findsAll 13 = .ok (.iload_n 1, 1) := by decide +kernel
theorem dX9_findsAll_14 : decode cX9_findsAll 14 = .ok (.iconst 0, 1) := by decide +kernel
theorem dX9_findsAll_15 : decode cX9_findsAll 15 = .ok (.bastore, 1) := by decide +kernel
theorem dX9_findsAll_16 : decode cX9_findsAll 16 = .ok (.iinc 1 1, 3) := by decide +kernel
theorem dX9_findsAll_19 : decode cX9_findsAll 19 = .ok (.goto (-17), 3) := by decide +kernel
theorem dX9_findsAll_22 : decode cX9_findsAll 22 = .ok (.iconst 0, 1) := by decide +kernel
theorem dX9_findsAll_23 : decode cX9_findsAll 23 = .ok (.istore_n 1, 1) := by decide +kernel
theorem dX9_findsAll_24 : decode cX9_findsAll 24 = .ok (.iload_n 1, 1) := by decide +kernel
theorem dX9_findsAll_25 : decode cX9_findsAll 25 = .ok (.iconst 4, 1) := by decide +kernel
theorem dX9_findsAll_26 : decode cX9_findsAll 26 = .ok (.if_icmp .ge 16, 3) := by decide +kernel
theorem dX9_findsAll_29 : decode cX9_findsAll 29 = .ok (.aload_n 0, 1) := by decide +kernel
theorem dX9_findsAll_30 : decode cX9_findsAll 30 = .ok (.getfield 38, 3) := by decide +kernel
theorem dX9_findsAll_33 : decode cX9_findsAll 33 = .ok (.iload_n 1, 1) := by decide +kernel
theorem dX9_findsAll_34 : decode cX9_findsAll 34 = .ok (.iconst 0, 1) := by decide +kernel
theorem dX9_findsAll_35 : decode cX9_findsAll 35 = .ok (.iastore, 1) := by decide +kernel
theorem dX9_findsAll_36 : decode cX9_findsAll 36 = .ok (.iinc 1 1, 3) := by decide +kernel
theorem dX9_findsAll_39 : decode cX9_findsAll 39 = .ok (.goto (-15), 3) := by decide +kernel
theorem dX9_findsAll_42 : decode cX9_findsAll 42 = .ok (.aload_n 0, 1) := by decide +kernel
theorem dX9_findsAll_43 : decode cX9_findsAll 43 = .ok (.invokevirtual 154, 3) := by decide +kernel
theorem dX9_findsAll_46 : decode cX9_findsAll 46 = .ok (.aload_n 0, 1) := by decide +kernel
theorem dX9_findsAll_47 : decode cX9_findsAll 47 = .ok (.invokevirtual 157, 3) := by decide +kernel
theorem dX9_findsAll_50 : decode cX9_findsAll 50 = .ok (.ifCond .eq 97, 3) := by decide +kernel
theorem dX9_findsAll_53 : decode cX9_findsAll 53 = .ok (.aload_n 0, 1) := by decide +kernel
theorem dX9_findsAll_54 : decode cX9_findsAll 54 = .ok (.invokevirtual 160, 3) := by decide +kernel
theorem dX9_findsAll_57 : decode cX9_findsAll 57 = .ok (.istore_n 1, 1) := by decide +kernel
theorem dX9_findsAll_58 : decode cX9_findsAll 58 = .ok (.aload_n 0, 1) := by decide +kernel
theorem dX9_findsAll_59 : decode cX9_findsAll 59 = .ok (.getfield 38, 3) := by decide +kernel
theorem dX9_findsAll_62 : decode cX9_findsAll 62 = .ok (.iconst 0, 1) := by decide +kernel
theorem dX9_findsAll_63 : decode cX9_findsAll 63 = .ok (.dup2, 1) := by decide +kernel
theorem dX9_findsAll_64 : decode cX9_findsAll 64 = .ok (.iaload, 1) := by decide +kernel
theorem dX9_findsAll_65 : decode cX9_findsAll 65 = .ok (.iconst 1, 1) := by decide +kernel
theorem dX9_findsAll_66 : decode cX9_findsAll 66 = .ok (.iadd, 1) := by decide +kernel
theorem dX9_findsAll_67 : decode cX9_findsAll 67 = .ok (.iastore, 1) := by decide +kernel
theorem dX9_findsAll_68 : decode cX9_findsAll 68 = .ok (.aload_n 0, 1) := by decide +kernel
theorem dX9_findsAll_69 : decode cX9_findsAll 69 = .ok (.getfield 38, 3) := by decide +kernel
theorem dX9_findsAll_72 : decode cX9_findsAll 72 = .ok (.iconst 1, 1) := by decide +kernel
theorem dX9_findsAll_73 : decode cX9_findsAll 73 = .ok (.dup2, 1) := by decide +kernel
theorem dX9_findsAll_74 : decode cX9_findsAll 74 = .ok (.iaload, 1) := by decide +kernel
theorem dX9_findsAll_75 : decode cX9_findsAll 75 = .ok (.aload_n 0, 1) := by decide +kernel
theorem dX9_findsAll_76 : decode cX9_findsAll 76 = .ok (.getfield 130, 3) := by decide +kernel
theorem dX9_findsAll_79 : decode cX9_findsAll 79 = .ok (.aload_n 0, 1) := by decide +kernel
theorem dX9_findsAll_80 : decode cX9_findsAll 80 = .ok (.invokevirtual 164, 3) := by decide +kernel
theorem dX9_findsAll_83 : decode cX9_findsAll 83 = .ok (.if_icmp .ge 7, 3) := by decide +kernel
theorem dX9_findsAll_86 : decode cX9_findsAll 86 = .ok (.iconst 1, 1) := by decide +kernel
theorem dX9_findsAll_87 : decode cX9_findsAll 87 = .ok (.goto 4, 3) := by decide +kernel
theorem dX9_findsAll_90 : decode cX9_findsAll 90 = .ok (.iconst 0, 1) := by decide +kernel
theorem dX9_findsAll_91 : decode cX9_findsAll 91 = .ok (.iadd, 1) := by decide +kernel
theorem dX9_findsAll_92 : decode cX9_findsAll 92 = .ok (.iastore, 1) := by decide +kernel
theorem dX9_findsAll_93 : decode cX9_findsAll 93 = .ok (.aload_n 0, 1) := by decide +kernel
theorem dX9_findsAll_94 : decode cX9_findsAll 94 = .ok (.getfield 38, 3) := by decide +kernel
theorem dX9_findsAll_97 : decode cX9_findsAll 97 = .ok (.iconst 2, 1) := by decide +kernel
theorem dX9_findsAll_98 : decode cX9_findsAll 98 = .ok (.dup2, 1) := by decide +kernel
theorem dX9_findsAll_99 : decode cX9_findsAll 99 = .ok (.iaload, 1) := by decide +kernel
theorem dX9_findsAll_100 : decode cX9_findsAll 100 = .ok (.aload_n 0, 1) := by decide +kernel
theorem dX9_findsAll_101 : decode cX9_findsAll 101 = .ok (.getfield 140, 3) := by decide +kernel
theorem dX9_findsAll_104 : decode cX9_findsAll 104 = .ok (.ifCond .le 7, 3) := by decide +kernel
theorem dX9_findsAll_107 : decode cX9_findsAll 107 = .ok (.iconst 1, 1) := by decide +kernel
theorem dX9_findsAll_108 : decode cX9_findsAll 108 = .ok (.goto 4, 3) := by decide +kernel
theorem dX9_findsAll_111 : decode cX9_findsAll 111 = .ok (.iconst 0, 1) := by decide +kernel
theorem dX9_findsAll_112 : decode cX9_findsAll 112 = .ok (.iadd, 1) := by decide +kernel
theorem dX9_findsAll_113 : decode cX9_findsAll 113 = .ok (.iastore, 1) := by decide +kernel
theorem dX9_findsAll_114 : decode cX9_findsAll 114 = .ok (.aload_n 0, 1) := by decide +kernel
theorem dX9_findsAll_115 : decode cX9_findsAll 115 = .ok (.getfield 38, 3) := by decide +kernel
theorem dX9_findsAll_118 : decode cX9_findsAll 118 = .ok (.iconst 3, 1) := by decide +kernel
theorem dX9_findsAll_119 : decode cX9_findsAll 119 = .ok (.dup2, 1) := by decide +kernel
theorem dX9_findsAll_120 : decode cX9_findsAll 120 = .ok (.iaload, 1) := by decide +kernel
theorem dX9_findsAll_121 : decode cX9_findsAll 121 = .ok (.aload_n 0, 1) := by decide +kernel
theorem dX9_findsAll_122 : decode cX9_findsAll 122 = .ok (.getfield 34, 3) := by decide +kernel
theorem dX9_findsAll_125 : decode cX9_findsAll 125 = .ok (.iload_n 1, 1) := by decide +kernel
theorem dX9_findsAll_126 : decode cX9_findsAll 126 = .ok (.baload, 1) := by decide +kernel
theorem dX9_findsAll_127 : decode cX9_findsAll 127 = .ok (.ifCond .eq 7, 3) := by decide +kernel
theorem dX9_findsAll_130 : decode cX9_findsAll 130 = .ok (.iconst 0, 1) := by decide +kernel
theorem dX9_findsAll_131 : decode cX9_findsAll 131 = .ok (.goto 4, 3) := by decide +kernel
theorem dX9_findsAll_134 : decode cX9_findsAll 134 = .ok (.iconst 1, 1) := by decide +kernel
theorem dX9_findsAll_135 : decode cX9_findsAll 135 = .ok (.iadd, 1) := by decide +kernel
theorem dX9_findsAll_136 : decode cX9_findsAll 136 = .ok (.iastore, 1) := by decide +kernel
theorem dX9_findsAll_137 : decode cX9_findsAll 137 = .ok (.aload_n 0, 1) := by decide +kernel
theorem dX9_findsAll_138 : decode cX9_findsAll 138 = .ok (.getfield 34, 3) := by decide +kernel
theorem dX9_findsAll_141 : decode cX9_findsAll 141 = .ok (.iload_n 1, 1) := by decide +kernel
theorem dX9_findsAll_142 : decode cX9_findsAll 142 = .ok (.iconst 1, 1) := by decide +kernel
theorem dX9_findsAll_143 : decode cX9_findsAll 143 = .ok (.bastore, 1) := by decide +kernel
theorem dX9_findsAll_144 : decode cX9_findsAll 144 = .ok (.goto (-98), 3) := by decide +kernel
theorem dX9_findsAll_147 : decode cX9_findsAll 147 = .ok (.return_, 1) := by decide +kernel
set_option maxRecDepth 20000 in
theorem ggX9_orders_X9_in : GoodIn wsX9_orders wsX9_in := goodIn_r _ [6] (by decide +kernel) (by decide +kernel)
set_option maxRecDepth 20000 in
theorem gX9_orders_X9_in : GoodIn wsX9_orders (va_wsS RX9 65 yX9_in wsX9_in) := goodIn_app (goodIn_of _ (by decide +kernel)) ggX9_orders_X9_in
set_option maxRecDepth 20000 in
theorem ggX9_orders_X9_refuses : GoodIn wsX9_orders wsX9_refuses := goodIn_r _ [10, 11, 93, 94, 95, 96, 97, 98, 99, 100, 101, 102, 103, 104, 105, 106, 107, 108, 109, 110, 111, 112, 113, 114] (by decide +kernel) (by decide +kernel)
set_option maxRecDepth 20000 in
theorem gX9_orders_X9_refuses : GoodIn wsX9_orders (wsV RX9 87 RX9 yX9_refuses wsX9_refuses) := goodIn_app (goodIn_of _ (by decide +kernel)) ggX9_orders_X9_refuses
set_option maxRecDepth 20000 in
theorem ggX9_orders_X9_findsAll : GoodIn wsX9_orders wsX9_findsAll := goodIn_r _ [15, 16, 2, 17, 18, 19, 20, 21, 5, 22, 23, 24, 25, 26, 27, 28, 29, 30, 31, 32, 33, 34, 35, 36, 37, 38, 39, 40, 41, 42, 43, 44, 45, 46, 47, 48, 49, 50, 51, 52, 53, 54, 55, 56, 57, 58, 59, 60, 61, 62, 63, 64, 65, 66, 67, 68, 69, 70, 71, 72, 73, 74, 75, 76, 77, 78, 79, 80, 81, 82, 83, 84, 85, 86, 87, 88, 89, 90, 91, 92, 93, 94, 95, 96, 97, 98, 99, 100, 101, 102, 103, 104, 105, 106, 107, 108, 109, 110, 111, 112, 113, 114] (by decide +kernel) (by decide +kernel)
set_option maxRecDepth 20000 in
theorem gX9_orders_X9_findsAll : GoodIn wsX9_orders (wsV RX9 167 RX9 yX9_findsAll wsX9_findsAll) := goodIn_app (goodIn_of _ (by decide +kernel)) ggX9_orders_X9_findsAll
theorem dX9_orders_0 : decode cX9_orders 0 = .ok (.iload_n 1, 1) := by decide +kernel
theorem dX9_orders_1 : decode cX9_orders 1 = .ok (.i2l, 1) := by decide +kernel
theorem dX9_orders_2 : decode cX9_orders 2 = .ok (.lconst 0, 1) := by decide +kernel
theorem dX9_orders_3 : decode cX9_orders 3 = .ok (.ldc2_w 69, 3) := by decide +kernel
theorem dX9_orders_6 : decode cX9_orders 6 = .ok (.invokestatic 65, 3) := by decide +kernel
theorem dX9_orders_9 : decode cX9_orders 9 = .ok (.ifCond .ne 10, 3) := by decide +kernel
theorem dX9_orders_12 : decode cX9_orders 12 = .ok (.aload_n 0, 1) := by decide +kernel
theorem dX9_orders_13 : decode cX9_orders 13 = .ok (.bipush (-2), 2) := by decide +kernel
theorem dX9_orders_15 : decode cX9_orders 15 = .ok (.invokevirtual 87, 3) := by decide +kernel
theorem dX9_orders_18 : decode cX9_orders 18 = .ok (.ireturn, 1) := by decide +kernel
theorem dX9_orders_19 : decode cX9_orders 19 = .ok (.aload_n 0, 1) := by decide +kernel
theorem dX9_orders_20 : decode cX9_orders 20 = .ok (.invokevirtual 167, 3) := by decide +kernel
theorem dX9_orders_23 : decode cX9_orders 23 = .ok (.aload_n 0, 1) := by decide +kernel
theorem dX9_orders_24 : decode cX9_orders 24 = .ok (.getfield 38, 3) := by decide +kernel
theorem dX9_orders_27 : decode cX9_orders 27 = .ok (.iload_n 1, 1) := by decide +kernel
theorem dX9_orders_28 : decode cX9_orders 28 = .ok (.iaload, 1) := by decide +kernel
theorem dX9_orders_29 : decode cX9_orders 29 = .ok (.ireturn, 1) := by decide +kernel
set_option maxRecDepth 20000 in
theorem ggX9_findsSort_X9_starts : GoodIn wsX9_findsSort wsX9_starts := goodIn_r _ [5, 6, 7, 8, 56, 57, 58, 59, 60, 61, 62, 63, 64, 65, 66, 67, 68, 69, 70, 71, 72, 73, 74, 75, 76, 77] (by decide +kernel) (by decide +kernel)
set_option maxRecDepth 20000 in
theorem gX9_findsSort_X9_starts : GoodIn wsX9_findsSort (wsV RX9 154 RX9 yX9_starts wsX9_starts) := goodIn_app (goodIn_of _ (by decide +kernel)) ggX9_findsSort_X9_starts
set_option maxRecDepth 20000 in
theorem ggX9_findsSort_X9_goesOn : GoodIn wsX9_findsSort wsX9_goesOn := goodIn_r _ [12, 7, 6, 13, 14, 8, 15, 16, 17, 4, 18, 19, 20, 21, 22, 23, 24, 25, 26, 27, 28, 29, 30, 31, 32, 33, 34, 35, 36, 37, 38, 39, 40, 41, 42, 43, 44, 45, 46, 47, 48, 49, 50, 51, 52, 53, 54, 55, 56, 57, 58, 59, 60, 61, 62, 63, 64, 65, 66, 67, 68, 69, 70, 71, 72, 73, 74, 75, 76, 77] (by decide +kernel) (by decide +kernel)
set_option maxRecDepth 20000 in
theorem gX9_findsSort_X9_goesOn : GoodIn wsX9_findsSort (wsV RX9 157 RX9 yX9_goesOn wsX9_goesOn) := goodIn_app (goodIn_of _ (by decide +kernel)) ggX9_findsSort_X9_goesOn
theorem dX9_findsSort_0 : decode cX9_findsSort 0 = .ok (.aload_n 0, 1) := by decide +kernel
theorem dX9_findsSort_1 : decode cX9_findsSort 1 = .ok (.invokevirtual 154, 3) := by decide +kernel
theorem dX9_findsSort_4 : decode cX9_findsSort 4 = .ok (.iconst 0, 1) := by decide +kernel
theorem dX9_findsSort_5 : decode cX9_findsSort 5 = .ok (.istore_n 2, 1) := by decide +kernel
theorem dX9_findsSort_6 : decode cX9_findsSort 6 = .ok (.aload_n 0, 1) := by decide +kernel
theorem dX9_findsSort_7 : decode cX9_findsSort 7 = .ok (.invokevirtual 157, 3) := by decide +kernel
theorem dX9_findsSort_10 : decode cX9_findsSort 10 = .ok (.ifCond .eq 16, 3) := by decide +kernel
theorem dX9_findsSort_13 : decode cX9_findsSort 13 = .ok (.iload_n 2, 1) := by decide +kernel
theorem dX9_findsSort_14 : decode cX9_findsSort 14 = .ok (.iload_n 1, 1) := by decide +kernel
theorem dX9_findsSort_15 : decode cX9_findsSort 15 = .ok (.if_icmp .ne 5, 3) := by decide +kernel
theorem dX9_findsSort_18 : decode cX9_findsSort 18 = .ok (.iconst 1, 1) := by decide +kernel
theorem dX9_findsSort_19 : decode cX9_findsSort 19 = .ok (.ireturn, 1) := by decide +kernel
theorem dX9_findsSort_20 : decode cX9_findsSort 20 = .ok (.iinc 2 1, 3) := by decide +kernel
theorem dX9_findsSort_23 : decode cX9_findsSort 23 = .ok (.goto (-17), 3) := by decide +kernel
theorem dX9_findsSort_26 : decode cX9_findsSort 26 = .ok (.iconst 0, 1) := by decide +kernel
theorem dX9_findsSort_27 : decode cX9_findsSort 27 = .ok (.ireturn, 1) := by decide +kernel
set_option maxRecDepth 20000 in
theorem ggX9_order_X9_refuses : GoodIn wsX9_order wsX9_refuses := goodIn_r _ [7, 8, 65, 66, 67, 68, 69, 70, 71, 72, 73, 74, 75, 76, 77, 78, 79, 80, 81, 82, 83, 84, 85, 86] (by decide +kernel) (by decide +kernel)
set_option maxRecDepth 20000 in
theorem gX9_order_X9_refuses : GoodIn wsX9_order (wsV RX9 87 RX9 yX9_refuses wsX9_refuses) := goodIn_app (goodIn_of _ (by decide +kernel)) ggX9_order_X9_refuses
set_option maxRecDepth 20000 in
theorem ggX9_order_X9_findsSort : GoodIn wsX9_order wsX9_findsSort := goodIn_r _ [12, 13, 14, 15, 6, 16, 1, 17, 18, 19, 20, 21, 22, 2, 23, 24, 25, 26, 27, 28, 29, 30, 31, 32, 33, 34, 35, 36, 37, 38, 39, 40, 41, 42, 43, 44, 45, 46, 47, 48, 49, 50, 51, 52, 53, 54, 55, 56, 57, 58, 59, 60, 61, 62, 63, 64, 65, 66, 67, 68, 69, 70, 71, 72, 73, 74, 75, 76, 77, 78, 79, 80, 81, 82, 83, 84, 85, 86] (by decide +kernel) (by decide +kernel)
set_option maxRecDepth 20000 in
theorem gX9_order_X9_findsSort : GoodIn wsX9_order (wsV RX9 170 RX9 yX9_findsSort wsX9_findsSort) := goodIn_app (goodIn_of _ (by decide +kernel)) ggX9_order_X9_findsSort
theorem dX9_order_0 : decode cX9_order 0 = .ok (.iload_n 1, 1) := by decide +kernel
theorem dX9_order_1 : decode cX9_order 1 = .ok (.ifCond .lt 8, 3) := by decide +kernel
theorem dX9_order_4 : decode cX9_order 4 = .ok (.iload_n 2, 1) := by decide +kernel
theorem dX9_order_5 : decode cX9_order 5 = .ok (.iconst (-1), 1) := by decide +kernel
theorem dX9_order_6 : decode cX9_order 6 = .ok (.if_icmp .ge 10, 3) := by decide +kernel
theorem dX9_order_9 : decode cX9_order 9 = .ok (.aload_n 0, 1) := by decide +kernel
theorem dX9_order_10 : decode cX9_order 10 = .ok (.bipush (-2), 2) := by decide +kernel
theorem dX9_order_12 : decode cX9_order 12 = .ok (.invokevirtual 87, 3) := by decide +kernel
theorem dX9_order_15 : decode cX9_order 15 = .ok (.ireturn, 1) := by decide +kernel
theorem dX9_order_16 : decode cX9_order 16 = .ok (.aload_n 0, 1) := by decide +kernel
theorem dX9_order_17 : decode cX9_order 17 = .ok (.iload_n 1, 1) := by decide +kernel
theorem dX9_order_18 : decode cX9_order 18 = .ok (.invokevirtual 170, 3) := by decide +kernel
theorem dX9_order_21 : decode cX9_order 21 = .ok (.ifCond .ne 10, 3) := by decide +kernel
theorem dX9_order_24 : decode cX9_order 24 = .ok (.aload_n 0, 1) := by decide +kernel
theorem dX9_order_25 : decode cX9_order 25 = .ok (.bipush (-3), 2) := by decide +kernel
theorem dX9_order_27 : decode cX9_order 27 = .ok (.invokevirtual 87, 3) := by decide +kernel
theorem dX9_order_30 : decode cX9_order 30 = .ok (.ireturn, 1) := by decide +kernel
theorem dX9_order_31 : decode cX9_order 31 = .ok (.iload_n 2, 1) := by decide +kernel
theorem dX9_order_32 : decode cX9_order 32 = .ok (.iconst (-1), 1) := by decide +kernel
theorem dX9_order_33 : decode cX9_order 33 = .ok (.if_icmp .ne 10, 3) := by decide +kernel
theorem dX9_order_36 : decode cX9_order 36 = .ok (.aload_n 0, 1) := by decide +kernel
theorem dX9_order_37 : decode cX9_order 37 = .ok (.getfield 130, 3) := by decide +kernel
theorem dX9_order_40 : decode cX9_order 40 = .ok (.goto 22, 3) := by decide +kernel
theorem dX9_order_43 : decode cX9_order 43 = .ok (.iload_n 2, 1) := by decide +kernel
theorem dX9_order_44 : decode cX9_order 44 = .ok (.aload_n 0, 1) := by decide +kernel
theorem dX9_order_45 : decode cX9_order 45 = .ok (.getfield 130, 3) := by decide +kernel
theorem dX9_order_48 : decode cX9_order 48 = .ok (.if_icmp .ge 12, 3) := by decide +kernel
theorem dX9_order_51 : decode cX9_order 51 = .ok (.aload_n 0, 1) := by decide +kernel
theorem dX9_order_52 : decode cX9_order 52 = .ok (.getfield 22, 3) := by decide +kernel
theorem dX9_order_55 : decode cX9_order 55 = .ok (.iload_n 2, 1) := by decide +kernel
theorem dX9_order_56 : decode cX9_order 56 = .ok (.iaload, 1) := by decide +kernel
theorem dX9_order_57 : decode cX9_order 57 = .ok (.goto 5, 3) := by decide +kernel
theorem dX9_order_60 : decode cX9_order 60 = .ok (.bipush (-5), 2) := by decide +kernel
theorem dX9_order_62 : decode cX9_order 62 = .ok (.ireturn, 1) := by decide +kernel
set_option maxRecDepth 20000 in
theorem ggX9_sort_X9_in : GoodIn wsX9_sort wsX9_in := goodIn_r _ [7] (by decide +kernel) (by decide +kernel)
set_option maxRecDepth 20000 in
theorem gX9_sort_X9_in : GoodIn wsX9_sort (va_wsS RX9 65 yX9_in wsX9_in) := goodIn_app (goodIn_of _ (by decide +kernel)) ggX9_sort_X9_in
set_option maxRecDepth 20000 in
theorem ggX9_sort_X9_refuses : GoodIn wsX9_sort wsX9_refuses := goodIn_r _ [11, 12, 91, 92, 93, 94, 95, 96, 97, 98, 99, 100, 101, 102, 103, 104, 105, 106, 107, 108, 109, 110, 111, 112] (by decide +kernel) (by decide +kernel)
set_option maxRecDepth 20000 in
theorem gX9_sort_X9_refuses : GoodIn wsX9_sort (wsV RX9 87 RX9 yX9_refuses wsX9_refuses) := goodIn_app (goodIn_of _ (by decide +kernel)) ggX9_sort_X9_refuses
set_option maxRecDepth 20000 in
theorem ggX9_sort_X9_findsSort : GoodIn wsX9_sort wsX9_findsSort := goodIn_r _ [16, 17, 18, 19, 6, 20, 3, 21, 22, 23, 24, 25, 26, 27, 28, 29, 30, 31, 32, 33, 34, 35, 36, 37, 38, 39, 40, 41, 42, 43, 44, 45, 46, 47, 48, 49, 50, 51, 52, 53, 54, 55, 56, 57, 58, 59, 60, 61, 62, 63, 64, 65, 66, 67, 68, 69, 91, 92, 93, 94, 95, 96, 97, 98, 99, 100, 101, 102, 103, 104, 105, 106, 107, 108, 109, 110, 111, 112] (by decide +kernel) (by decide +kernel)
set_option maxRecDepth 20000 in
theorem gX9_sort_X9_findsSort : GoodIn wsX9_sort (wsV RX9 170 RX9 yX9_findsSort wsX9_findsSort) := goodIn_app (goodIn_of _ (by decide +kernel)) ggX9_sort_X9_findsSort
set_option maxRecDepth 20000 in
theorem ggX9_sort_X9_endOf : GoodIn wsX9_sort wsX9_endOf := goodIn_r _ [73, 3, 27, 28, 74, 75, 76, 77, 6, 78, 2, 41, 79, 80, 81, 82, 42, 43, 44, 45, 83, 84, 85, 86, 91, 92, 93, 94, 95, 96, 97, 98, 99, 100, 101, 102, 103, 104, 105, 106, 107, 108, 109, 110, 111, 112] (by decide +kernel) (by decide +kernel)
set_option maxRecDepth 20000 in
theorem gX9_sort_X9_endOf : GoodIn wsX9_sort (wsV RX9 160 RX9 yX9_endOf wsX9_endOf) := goodIn_app (goodIn_of _ (by decide +kernel)) ggX9_sort_X9_endOf
set_option maxRecDepth 20000 in
theorem ggX9_sort_X9_allSteps : GoodIn wsX9_sort wsX9_allSteps := goodIn_r _ [90, 37, 38, 39, 6, 40, 41, 91, 92, 93, 94, 95, 96, 97, 98, 99, 100, 101, 102, 103, 104, 105, 106, 107, 108, 109, 110, 111, 112] (by decide +kernel) (by decide +kernel)
set_option maxRecDepth 20000 in
theorem gX9_sort_X9_allSteps : GoodIn wsX9_sort (wsV RX9 164 RX9 yX9_allSteps wsX9_allSteps) := goodIn_app (goodIn_of _ (by decide +kernel)) ggX9_sort_X9_allSteps
theorem dX9_sort_0 : decode cX9_sort 0 = .ok (.iload_n 1, 1) := by decide +kernel
theorem dX9_sort_1 : decode cX9_sort 1 = .ok (.ifCond .lt 15, 3) := by decide +kernel
theorem dX9_sort_4 : decode cX9_sort 4 = .ok (.iload_n 2, 1) := by decide +kernel
theorem dX9_sort_5 : decode cX9_sort 5 = .ok (.i2l, 1) := by decide +kernel
theorem dX9_sort_6 : decode cX9_sort 6 = .ok (.lconst 0, 1) := by decide +kernel
theorem dX9_sort_7 : decode cX9_sort 7 = .ok (.ldc2_w 77, 3) := by decide +kernel
theorem dX9_sort_10 : decode cX9_sort 10 = .ok (.invokestatic 65, 3) := by decide +kernel
theorem dX9_sort_13 : decode cX9_sort 13 = .ok (.ifCond .ne 10, 3) := by decide +kernel
theorem dX9_sort_16 : decode cX9_sort 16 = .ok (.aload_n 0, 1) := by decide +kernel
theorem dX9_sort_17 : decode cX9_sort 17 = .ok (.bipush (-2), 2) := by decide +kernel
theorem dX9_sort_19 : decode cX9_sort 19 = .ok (.invokevirtual 87, 3) := by decide +kernel
theorem dX9_sort_22 : decode cX9_sort 22 = .ok (.ireturn, 1) := by decide +kernel
theorem dX9_sort_23 : decode cX9_sort 23 = .ok (.aload_n 0, 1) := by decide +kernel
theorem dX9_sort_24 : decode cX9_sort 24 = .ok (.iload_n 1, 1) := by decide +kernel
theorem dX9_sort_25 : decode cX9_sort 25 = .ok (.invokevirtual 170, 3) := by decide +kernel
theorem dX9_sort_28 : decode cX9_sort 28 = .ok (.ifCond .ne 10, 3) := by decide +kernel
theorem dX9_sort_31 : decode cX9_sort 31 = .ok (.aload_n 0, 1) := by decide +kernel
theorem dX9_sort_32 : decode cX9_sort 32 = .ok (.bipush (-3), 2) := by decide +kernel
theorem dX9_sort_34 : decode cX9_sort 34 = .ok (.invokevirtual 87, 3) := by decide +kernel
theorem dX9_sort_37 : decode cX9_sort 37 = .ok (.ireturn, 1) := by decide +kernel
theorem dX9_sort_38 : decode cX9_sort 38 = .ok (.aload_n 0, 1) := by decide +kernel
theorem dX9_sort_39 : decode cX9_sort 39 = .ok (.invokevirtual 160, 3) := by decide +kernel
theorem dX9_sort_42 : decode cX9_sort 42 = .ok (.istore_n 3, 1) := by decide +kernel
theorem dX9_sort_43 : decode cX9_sort 43 = .ok (.iload_n 2, 1) := by decide +kernel
theorem dX9_sort_44 : decode cX9_sort 44 = .ok (.ifCond .ne 7, 3) := by decide +kernel
theorem dX9_sort_47 : decode cX9_sort 47 = .ok (.iload_n 3, 1) := by decide +kernel
theorem dX9_sort_48 : decode cX9_sort 48 = .ok (.goto 31, 3) := by decide +kernel
theorem dX9_sort_51 : decode cX9_sort 51 = .ok (.iload_n 2, 1) := by decide +kernel
theorem dX9_sort_52 : decode cX9_sort 52 = .ok (.iconst 1, 1) := by decide +kernel
theorem dX9_sort_53 : decode cX9_sort 53 = .ok (.if_icmp .ne 10, 3) := by decide +kernel
theorem dX9_sort_56 : decode cX9_sort 56 = .ok (.aload_n 0, 1) := by decide +kernel
theorem dX9_sort_57 : decode cX9_sort 57 = .ok (.getfield 140, 3) := by decide +kernel
theorem dX9_sort_60 : decode cX9_sort 60 = .ok (.goto 19, 3) := by decide +kernel
theorem dX9_sort_63 : decode cX9_sort 63 = .ok (.aload_n 0, 1) := by decide +kernel
theorem dX9_sort_64 : decode cX9_sort 64 = .ok (.getfield 130, 3) := by decide +kernel
theorem dX9_sort_67 : decode cX9_sort 67 = .ok (.aload_n 0, 1) := by decide +kernel
theorem dX9_sort_68 : decode cX9_sort 68 = .ok (.invokevirtual 164, 3) := by decide +kernel
theorem dX9_sort_71 : decode cX9_sort 71 = .ok (.if_icmp .ge 7, 3) := by decide +kernel
theorem dX9_sort_74 : decode cX9_sort 74 = .ok (.iconst 1, 1) := by decide +kernel
theorem dX9_sort_75 : decode cX9_sort 75 = .ok (.goto 4, 3) := by decide +kernel
theorem dX9_sort_78 : decode cX9_sort 78 = .ok (.iconst 0, 1) := by decide +kernel
theorem dX9_sort_79 : decode cX9_sort 79 = .ok (.ireturn, 1) := by decide +kernel
set_option maxRecDepth 20000 in
theorem ggX9_ends_X9_refuses : GoodIn wsX9_ends wsX9_refuses := goodIn_r _ [6, 7, 89, 90, 91, 92, 93, 94, 95, 96, 97, 98, 99, 100, 101, 102, 103, 104, 105, 106, 107, 108, 109, 110] (by decide +kernel) (by decide +kernel)
set_option maxRecDepth 20000 in
theorem gX9_ends_X9_refuses : GoodIn wsX9_ends (wsV RX9 87 RX9 yX9_refuses wsX9_refuses) := goodIn_app (goodIn_of _ (by decide +kernel)) ggX9_ends_X9_refuses
set_option maxRecDepth 20000 in
theorem ggX9_ends_X9_findsAll : GoodIn wsX9_ends wsX9_findsAll := goodIn_r _ [11, 1, 12, 13, 14, 15, 16, 17, 5, 18, 19, 20, 21, 22, 23, 24, 25, 26, 27, 28, 29, 30, 31, 32, 33, 34, 35, 36, 37, 38, 39, 40, 41, 42, 43, 44, 45, 46, 47, 48, 49, 50, 51, 52, 53, 54, 55, 56, 57, 58, 59, 60, 61, 62, 63, 64, 65, 66, 67, 68, 69, 70, 71, 72, 73, 74, 75, 76, 77, 78, 79, 80, 81, 82, 83, 84, 85, 86, 87, 88, 89, 90, 91, 92, 93, 94, 95, 96, 97, 98, 99, 100, 101, 102, 103, 104, 105, 106, 107, 108, 109, 110] (by decide +kernel) (by decide +kernel)
set_option maxRecDepth 20000 in
theorem gX9_ends_X9_findsAll : GoodIn wsX9_ends (wsV RX9 167 RX9 yX9_findsAll wsX9_findsAll) := goodIn_app (goodIn_of _ (by decide +kernel)) ggX9_ends_X9_findsAll
theorem dX9_ends_0 : decode cX9_ends 0 = .ok (.iload_n 1, 1) := by decide +kernel
theorem dX9_ends_1 : decode cX9_ends 1 = .ok (.ifCond .ge 10, 3) := by decide +kernel
theorem dX9_ends_4 : decode cX9_ends 4 = .ok (.aload_n 0, 1) := by decide +kernel
theorem dX9_ends_5 : decode cX9_ends 5 = .ok (.bipush (-2), 2) := by decide +kernel
theorem dX9_ends_7 : decode cX9_ends 7 = .ok (.invokevirtual 87, 3) := by decide +kernel
theorem dX9_ends_10 : decode cX9_ends 10 = .ok (.ireturn, 1) := by decide +kernel
theorem dX9_ends_11 : decode cX9_ends 11 = .ok (.aload_n 0, 1) := by decide +kernel
theorem dX9_ends_12 : decode cX9_ends 12 = .ok (.invokevirtual 167, 3) := by decide +kernel
theorem dX9_ends_15 : decode cX9_ends 15 = .ok (.iconst 0, 1) := by decide +kernel
theorem dX9_ends_16 : decode cX9_ends 16 = .ok (.istore_n 2, 1) := by decide +kernel
theorem dX9_ends_17 : decode cX9_ends 17 = .ok (.iconst 0, 1) := by decide +kernel
theorem dX9_ends_18 : decode cX9_ends 18 = .ok (.istore_n 3, 1) := by decide +kernel
theorem dX9_ends_19 : decode cX9_ends 19 = .ok (.iload_n 3, 1) := by decide +kernel
theorem dX9_ends_20 : decode cX9_ends 20 = .ok (.sipush 10000, 3) := by decide +kernel
theorem dX9_ends_23 : decode cX9_ends 23 = .ok (.if_icmp .ge 28, 3) := by decide +kernel
theorem dX9_ends_26 : decode cX9_ends 26 = .ok (.aload_n 0, 1) := by decide +kernel
theorem dX9_ends_27 : decode cX9_ends 27 = .ok (.getfield 34, 3) := by decide +kernel
theorem dX9_ends_30 : decode cX9_ends 30 = .ok (.iload_n 3, 1) := by decide +kernel
theorem dX9_ends_31 : decode cX9_ends 31 = .ok (.baload, 1) := by decide +kernel
theorem dX9_ends_32 : decode cX9_ends 32 = .ok (.ifCond .eq 13, 3) := by decide +kernel
theorem dX9_ends_35 : decode cX9_ends 35 = .ok (.iload_n 2, 1) := by decide +kernel
theorem dX9_ends_36 : decode cX9_ends 36 = .ok (.iload_n 1, 1) := by decide +kernel
theorem dX9_ends_37 : decode cX9_ends 37 = .ok (.if_icmp .ne 5, 3) := by decide +kernel
theorem dX9_ends_40 : decode cX9_ends 40 = .ok (.iload_n 3, 1) := by decide +kernel
theorem dX9_ends_41 : decode cX9_ends 41 = .ok (.ireturn, 1) := by decide +kernel
theorem dX9_ends_42 : decode cX9_ends 42 = .ok (.iinc 2 1, 3) := by decide +kernel
theorem dX9_ends_45 : decode cX9_ends 45 = .ok (.iinc 3 1, 3) := by decide +kernel
theorem dX9_ends_48 : decode cX9_ends 48 = .ok (.goto (-29), 3) := by decide +kernel
theorem dX9_ends_51 : decode cX9_ends 51 = .ok (.bipush (-5), 2) := by decide +kernel
theorem dX9_ends_53 : decode cX9_ends 53 = .ok (.ireturn, 1) := by decide +kernel
set_option maxRecDepth 20000 in
theorem ggX9_spreads_X9_canDo : GoodIn wsX9_spreads wsX9_canDo := goodIn_r _ [7, 2, 8, 9, 10, 6, 11, 12, 13, 14, 15, 16, 17, 18, 19, 20, 21, 22, 23, 24, 25, 26, 27, 28, 29, 30, 31, 32, 33, 34, 35, 36, 37, 38, 39, 40, 41, 42] (by decide +kernel) (by decide +kernel)
set_option maxRecDepth 20000 in
theorem gX9_spreads_X9_canDo : GoodIn wsX9_spreads (wsV RX9 127 RX9 yX9_canDo wsX9_canDo) := goodIn_app (goodIn_of _ (by decide +kernel)) ggX9_spreads_X9_canDo
theorem dX9_spreads_0 : decode cX9_spreads 0 = .ok (.iconst 0, 1) := by decide +kernel
theorem dX9_spreads_1 : decode cX9_spreads 1 = .ok (.istore_n 1, 1) := by decide +kernel
theorem dX9_spreads_2 : decode cX9_spreads 2 = .ok (.iload_n 1, 1) := by decide +kernel
theorem dX9_spreads_3 : decode cX9_spreads 3 = .ok (.bipush 125, 2) := by decide +kernel
theorem dX9_spreads_5 : decode cX9_spreads 5 = .ok (.if_icmp .ge 24, 3) := by decide +kernel
theorem dX9_spreads_8 : decode cX9_spreads 8 = .ok (.aload_n 0, 1) := by decide +kernel
theorem dX9_spreads_9 : decode cX9_spreads 9 = .ok (.getfield 41, 3) := by decide +kernel
theorem dX9_spreads_12 : decode cX9_spreads 12 = .ok (.iload_n 1, 1) := by decide +kernel
theorem dX9_spreads_13 : decode cX9_spreads 13 = .ok (.iload_n 1, 1) := by decide +kernel
theorem dX9_spreads_14 : decode cX9_spreads 14 = .ok (.ifCond .ne 7, 3) := by decide +kernel
theorem dX9_spreads_17 : decode cX9_spreads 17 = .ok (.iconst 1, 1) := by decide +kernel
theorem dX9_spreads_18 : decode cX9_spreads 18 = .ok (.goto 4, 3) := by decide +kernel
theorem dX9_spreads_21 : decode cX9_spreads 21 = .ok (.iconst 0, 1) := by decide +kernel
theorem dX9_spreads_22 : decode cX9_spreads 22 = .ok (.bastore, 1) := by decide +kernel
theorem dX9_spreads_23 : decode cX9_spreads 23 = .ok (.iinc 1 1, 3) := by decide +kernel
theorem dX9_spreads_26 : decode cX9_spreads 26 = .ok (.goto (-24), 3) := by decide +kernel
theorem dX9_spreads_29 : decode cX9_spreads 29 = .ok (.iconst 0, 1) := by decide +kernel
theorem dX9_spreads_30 : decode cX9_spreads 30 = .ok (.istore_n 1, 1) := by decide +kernel
theorem dX9_spreads_31 : decode cX9_spreads 31 = .ok (.iload_n 1, 1) := by decide +kernel
theorem dX9_spreads_32 : decode cX9_spreads 32 = .ok (.bipush 125, 2) := by decide +kernel
theorem dX9_spreads_34 : decode cX9_spreads 34 = .ok (.if_icmp .ge 96, 3) := by decide +kernel
theorem dX9_spreads_37 : decode cX9_spreads 37 = .ok (.iconst 0, 1) := by decide +kernel
theorem dX9_spreads_38 : decode cX9_spreads 38 = .ok (.istore_n 2, 1) := by decide +kernel
theorem dX9_spreads_39 : decode cX9_spreads 39 = .ok (.iload_n 2, 1) := by decide +kernel
theorem dX9_spreads_40 : decode cX9_spreads 40 = .ok (.iconst 3, 1) := by decide +kernel
theorem dX9_spreads_41 : decode cX9_spreads 41 = .ok (.if_icmp .ge 83, 3) := by decide +kernel
theorem dX9_spreads_44 : decode cX9_spreads 44 = .ok (.aload_n 0, 1) := by decide +kernel
theorem dX9_spreads_45 : decode cX9_spreads 45 = .ok (.getfield 41, 3) := by decide +kernel
theorem dX9_spreads_48 : decode cX9_spreads 48 = .ok (.iload_n 1, 1) := by decide +kernel
theorem dX9_spreads_49 : decode cX9_spreads 49 = .ok (.baload, 1) := by decide +kernel
theorem dX9_spreads_50 : decode cX9_spreads 50 = .ok (.ifCond .eq 74, 3) := by decide +kernel
theorem dX9_spreads_53 : decode cX9_spreads 53 = .ok (.aload_n 0, 1) := by decide +kernel
theorem dX9_spreads_54 : decode cX9_spreads 54 = .ok (.getfield 19, 3) := by decide +kernel
theorem dX9_spreads_57 : decode cX9_spreads 57 = .ok (.iconst 0, 1) := by decide +kernel
theorem dX9_spreads_58 : decode cX9_spreads 58 = .ok (.iload_n 1, 1) := by decide +kernel
theorem dX9_spreads_59 : decode cX9_spreads 59 = .ok (.iconst 5, 1) := by decide +kernel
theorem dX9_spreads_60 : decode cX9_spreads 60 = .ok (.irem, 1) := by decide +kernel
theorem dX9_spreads_61 : decode cX9_spreads 61 = .ok (.iastore, 1) := by decide +kernel
theorem dX9_spreads_62 : decode cX9_spreads 62 = .ok (.aload_n 0, 1) := by decide +kernel
theorem dX9_spreads_63 : decode cX9_spreads 63 = .ok (.getfield 19, 3) := by decide +kernel
theorem dX9_spreads_66 : decode cX9_spreads 66 = .ok (.iconst 1, 1) := by decide +kernel
theorem dX9_spreads_67 : decode cX9_spreads 67 = .ok (.iload_n 1, 1) := by decide +kernel
theorem dX9_spreads_68 : decode cX9_spreads 68 = .ok (.iconst 5, 1) := by decide +kernel
theorem dX9_spreads_69 : decode cX9_spreads 69 = .ok (.idiv, 1) := by decide +kernel
theorem dX9_spreads_70 : decode cX9_spreads 70 = .ok (.iconst 5, 1) := by decide +kernel
theorem dX9_spreads_71 : decode cX9_spreads 71 = .ok (.irem, 1) := by decide +kernel
theorem dX9_spreads_72 : decode cX9_spreads 72 = .ok (.iastore, 1) := by decide +kernel
theorem dX9_spreads_73 : decode cX9_spreads 73 = .ok (.aload_n 0, 1) := by decide +kernel
theorem dX9_spreads_74 : decode cX9_spreads 74 = .ok (.getfield 19, 3) := by decide +kernel
theorem dX9_spreads_77 : decode cX9_spreads 77 = .ok (.iconst 2, 1) := by decide +kernel
theorem dX9_spreads_78 : decode cX9_spreads 78 = .ok (.iload_n 1, 1) := by decide +kernel
theorem dX9_spreads_79 : decode cX9_spreads 79 = .ok (.bipush 25, 2) := by decide +kernel
theorem dX9_spreads_81 : decode cX9_spreads 81 = .ok (.idiv, 1) := by decide +kernel
theorem dX9_spreads_82 : decode cX9_spreads 82 = .ok (.iastore, 1) := by decide +kernel
theorem dX9_spreads_83 : decode cX9_spreads 83 = .ok (.aload_n 0, 1) := by decide +kernel
theorem dX9_spreads_84 : decode cX9_spreads 84 = .ok (.iload_n 2, 1) := by decide +kernel
theorem dX9_spreads_85 : decode cX9_spreads 85 = .ok (.invokevirtual 127, 3) := by decide +kernel
theorem dX9_spreads_88 : decode cX9_spreads 88 = .ok (.ifCond .eq 30, 3) := by decide +kernel
theorem dX9_spreads_91 : decode cX9_spreads 91 = .ok (.aload_n 0, 1) := by decide +kernel
theorem dX9_spreads_92 : decode cX9_spreads 92 = .ok (.getfield 41, 3) := by decide +kernel
theorem dX9_spreads_95 : decode cX9_spreads 95 = .ok (.iload_n 1, 1) := by decide +kernel
theorem dX9_spreads_96 : decode cX9_spreads 96 = .ok (.iload_n 2, 1) := by decide +kernel
theorem dX9_spreads_97 : decode cX9_spreads 97 = .ok (.ifCond .ne 7, 3) := by decide +kernel
theorem dX9_spreads_100 : decode cX9_spreads 100 = .ok (.iconst 1, 1) := by decide +kernel
theorem dX9_spreads_101 : decode cX9_spreads 101 = .ok (.goto 14, 3) := by decide +kernel
theorem dX9_spreads_104 : decode cX9_spreads 104 = .ok (.iload_n 2, 1) := by decide +kernel
theorem dX9_spreads_105 : decode cX9_spreads 105 = .ok (.iconst 1, 1) := by decide +kernel
theorem dX9_spreads_106 : decode cX9_spreads 106 = .ok (.if_icmp .ne 7, 3) := by decide +kernel
theorem dX9_spreads_109 : decode cX9_spreads 109 = .ok (.iconst 5, 1) := by decide +kernel
theorem dX9_spreads_110 : decode cX9_spreads 110 = .ok (.goto 5, 3) := by decide +kernel
theorem dX9_spreads_113 : decode cX9_spreads 113 = .ok (.bipush 25, 2) := by decide +kernel
theorem dX9_spreads_115 : decode cX9_spreads 115 = .ok (.iadd, 1) := by decide +kernel
theorem dX9_spreads_116 : decode cX9_spreads 116 = .ok (.iconst 1, 1) := by decide +kernel
theorem dX9_spreads_117 : decode cX9_spreads 117 = .ok (.bastore, 1) := by decide +kernel
theorem dX9_spreads_118 : decode cX9_spreads 118 = .ok (.iinc 2 1, 3) := by decide +kernel
theorem dX9_spreads_121 : decode cX9_spreads 121 = .ok (.goto (-82), 3) := by decide +kernel
theorem dX9_spreads_124 : decode cX9_spreads 124 = .ok (.iinc 1 1, 3) := by decide +kernel
theorem dX9_spreads_127 : decode cX9_spreads 127 = .ok (.goto (-96), 3) := by decide +kernel
theorem dX9_spreads_130 : decode cX9_spreads 130 = .ok (.return_, 1) := by decide +kernel
set_option maxRecDepth 20000 in
theorem ggX9_isRace_X9_byNumber : GoodIn wsX9_isRace wsX9_byNumber := goodIn_r _ [7, 8, 9, 10, 6, 11, 12, 13, 14, 15, 16, 17, 18, 19, 20, 21, 22, 23, 24, 25, 26, 27, 28, 29, 30, 31, 32, 33, 34, 35, 36, 37, 38, 39, 40, 41, 42] (by decide +kernel) (by decide +kernel)
set_option maxRecDepth 20000 in
theorem gX9_isRace_X9_byNumber : GoodIn wsX9_isRace (wsV RX9 117 RX9 yX9_byNumber wsX9_byNumber) := goodIn_app (goodIn_of _ (by decide +kernel)) ggX9_isRace_X9_byNumber
theorem dX9_isRace_0 : decode cX9_isRace 0 = .ok (.iconst 0, 1) := by decide +kernel
theorem dX9_isRace_1 : decode cX9_isRace 1 = .ok (.istore 5, 2) := by decide +kernel
theorem dX9_isRace_3 : decode cX9_isRace 3 = .ok (.iconst 0, 1) := by decide +kernel
theorem dX9_isRace_4 : decode cX9_isRace 4 = .ok (.istore 6, 2) := by decide +kernel
theorem dX9_isRace_6 : decode cX9_isRace 6 = .ok (.iload 6, 2) := by decide +kernel
theorem dX9_isRace_8 : decode cX9_isRace 8 = .ok (.iconst 5, 1) := by decide +kernel
theorem dX9_isRace_9 : decode cX9_isRace 9 = .ok (.if_icmp .ge 93, 3) := by decide +kernel
theorem dX9_isRace_12 : decode cX9_isRace 12 = .ok (.aload_n 0, 1) := by decide +kernel
theorem dX9_isRace_13 : decode cX9_isRace 13 = .ok (.getfield 19, 3) := by decide +kernel
theorem dX9_isRace_16 : decode cX9_isRace 16 = .ok (.iconst 0, 1) := by decide +kernel
theorem dX9_isRace_17 : decode cX9_isRace 17 = .ok (.iload 6, 2) := by decide +kernel
theorem dX9_isRace_19 : decode cX9_isRace 19 = .ok (.iastore, 1) := by decide +kernel
theorem dX9_isRace_20 : decode cX9_isRace 20 = .ok (.aload_n 0, 1) := by decide +kernel
theorem dX9_isRace_21 : decode cX9_isRace 21 = .ok (.getfield 19, 3) := by decide +kernel
theorem dX9_isRace_24 : decode cX9_isRace 24 = .ok (.iconst 1, 1) := by decide +kernel
theorem dX9_isRace_25 : decode cX9_isRace 25 = .ok (.iload 6, 2) := by decide +kernel
theorem dX9_isRace_27 : decode cX9_isRace 27 = .ok (.iastore, 1) := by decide +kernel
theorem dX9_isRace_28 : decode cX9_isRace 28 = .ok (.aload_n 0, 1) := by decide +kernel
theorem dX9_isRace_29 : decode cX9_isRace 29 = .ok (.getfield 19, 3) := by decide +kernel
theorem dX9_isRace_32 : decode cX9_isRace 32 = .ok (.iconst 2, 1) := by decide +kernel
theorem dX9_isRace_33 : decode cX9_isRace 33 = .ok (.iload 6, 2) := by decide +kernel
theorem dX9_isRace_35 : decode cX9_isRace 35 = .ok (.iastore, 1) := by decide +kernel
theorem dX9_isRace_36 : decode cX9_isRace 36 = .ok (.aload_n 0, 1) := by decide +kernel
theorem dX9_isRace_37 : decode cX9_isRace 37 = .ok (.getfield 19, 3) := by decide +kernel
theorem dX9_isRace_40 : decode cX9_isRace 40 = .ok (.iload_n 1, 1) := by decide +kernel
theorem dX9_isRace_41 : decode cX9_isRace 41 = .ok (.iload_n 2, 1) := by decide +kernel
theorem dX9_isRace_42 : decode cX9_isRace 42 = .ok (.iastore, 1) := by decide +kernel
theorem dX9_isRace_43 : decode cX9_isRace 43 = .ok (.aload_n 0, 1) := by decide +kernel
theorem dX9_isRace_44 : decode cX9_isRace 44 = .ok (.getfield 19, 3) := by decide +kernel
theorem dX9_isRace_47 : decode cX9_isRace 47 = .ok (.iload_n 3, 1) := by decide +kernel
theorem dX9_isRace_48 : decode cX9_isRace 48 = .ok (.iload 4, 2) := by decide +kernel
theorem dX9_isRace_50 : decode cX9_isRace 50 = .ok (.iastore, 1) := by decide +kernel
theorem dX9_isRace_51 : decode cX9_isRace 51 = .ok (.iload 5, 2) := by decide +kernel
theorem dX9_isRace_53 : decode cX9_isRace 53 = .ok (.ifCond .ne 36, 3) := by decide +kernel
theorem dX9_isRace_56 : decode cX9_isRace 56 = .ok (.aload_n 0, 1) := by decide +kernel
theorem dX9_isRace_57 : decode cX9_isRace 57 = .ok (.getfield 41, 3) := by decide +kernel
theorem dX9_isRace_60 : decode cX9_isRace 60 = .ok (.aload_n 0, 1) := by decide +kernel
theorem dX9_isRace_61 : decode cX9_isRace 61 = .ok (.getfield 19, 3) := by decide +kernel
theorem dX9_isRace_64 : decode cX9_isRace 64 = .ok (.iconst 0, 1) := by decide +kernel
theorem dX9_isRace_65 : decode cX9_isRace 65 = .ok (.iaload, 1) := by decide +kernel
theorem dX9_isRace_66 : decode cX9_isRace 66 = .ok (.iconst 5, 1) := by decide +kernel
theorem dX9_isRace_67 : decode cX9_isRace 67 = .ok (.aload_n 0, 1) := by decide +kernel
theorem dX9_isRace_68 : decode cX9_isRace 68 = .ok (.getfield 19, 3) := by decide +kernel
theorem dX9_isRace_71 : decode cX9_isRace 71 = .ok (.iconst 1, 1) := by decide +kernel
theorem dX9_isRace_72 : decode cX9_isRace 72 = .ok (.iaload, 1) := by decide +kernel
theorem dX9_isRace_73 : decode cX9_isRace 73 = .ok (.imul, 1) := by decide +kernel
theorem dX9_isRace_74 : decode cX9_isRace 74 = .ok (.iadd, 1) := by decide +kernel
theorem dX9_isRace_75 : decode cX9_isRace 75 = .ok (.bipush 25, 2) := by decide +kernel
theorem dX9_isRace_77 : decode cX9_isRace 77 = .ok (.aload_n 0, 1) := by decide +kernel
theorem dX9_isRace_78 : decode cX9_isRace 78 = .ok (.getfield 19, 3) := by decide +kernel
theorem dX9_isRace_81 : decode cX9_isRace 81 = .ok (.iconst 2, 1) := by decide +kernel
theorem dX9_isRace_82 : decode cX9_isRace 82 = .ok (.iaload, 1) := by decide +kernel
theorem dX9_isRace_83 : decode cX9_isRace 83 = .ok (.imul, 1) := by decide +kernel
theorem dX9_isRace_84 : decode cX9_isRace 84 = .ok (.iadd, 1) := by decide +kernel
theorem dX9_isRace_85 : decode cX9_isRace 85 = .ok (.baload, 1) := by decide +kernel
theorem dX9_isRace_86 : decode cX9_isRace 86 = .ok (.ifCond .eq 7, 3) := by decide +kernel
theorem dX9_isRace_89 : decode cX9_isRace 89 = .ok (.iconst 1, 1) := by decide +kernel
theorem dX9_isRace_90 : decode cX9_isRace 90 = .ok (.goto 4, 3) := by decide +kernel
theorem dX9_isRace_93 : decode cX9_isRace 93 = .ok (.iconst 0, 1) := by decide +kernel
theorem dX9_isRace_94 : decode cX9_isRace 94 = .ok (.istore 5, 2) := by decide +kernel
theorem dX9_isRace_96 : decode cX9_isRace 96 = .ok (.iinc 6 1, 3) := by decide +kernel
theorem dX9_isRace_99 : decode cX9_isRace 99 = .ok (.goto (-93), 3) := by decide +kernel
theorem dX9_isRace_102 : decode cX9_isRace 102 = .ok (.iload 5, 2) := by decide +kernel
theorem dX9_isRace_104 : decode cX9_isRace 104 = .ok (.ifCond .eq 19, 3) := by decide +kernel
theorem dX9_isRace_107 : decode cX9_isRace 107 = .ok (.aload_n 0, 1) := by decide +kernel
theorem dX9_isRace_108 : decode cX9_isRace 108 = .ok (.iload_n 1, 1) := by decide +kernel
theorem dX9_isRace_109 : decode cX9_isRace 109 = .ok (.iload_n 2, 1) := by decide +kernel
theorem dX9_isRace_110 : decode cX9_isRace 110 = .ok (.iload_n 3, 1) := by decide +kernel
theorem dX9_isRace_111 : decode cX9_isRace 111 = .ok (.iload 4, 2) := by decide +kernel
theorem dX9_isRace_113 : decode cX9_isRace 113 = .ok (.invokevirtual 117, 3) := by decide +kernel
theorem dX9_isRace_116 : decode cX9_isRace 116 = .ok (.ifCond .eq 7, 3) := by decide +kernel
theorem dX9_isRace_119 : decode cX9_isRace 119 = .ok (.iconst 1, 1) := by decide +kernel
theorem dX9_isRace_120 : decode cX9_isRace 120 = .ok (.goto 4, 3) := by decide +kernel
theorem dX9_isRace_123 : decode cX9_isRace 123 = .ok (.iconst 0, 1) := by decide +kernel
theorem dX9_isRace_124 : decode cX9_isRace 124 = .ok (.ireturn, 1) := by decide +kernel
set_option maxRecDepth 20000 in
theorem ggX9_race_X9_isStep : GoodIn wsX9_race wsX9_isStep := goodIn_r _ [5, 6, 7, 4, 8, 9, 10, 11, 12, 13, 14, 15, 16, 17, 57, 58, 59, 60, 61, 62, 63, 64, 65, 66, 67, 68, 69, 70, 71, 72, 73, 74, 75, 76, 77, 78] (by decide +kernel) (by decide +kernel)
set_option maxRecDepth 20000 in
theorem gX9_race_X9_isStep : GoodIn wsX9_race (wsV RX9 108 RX9 yX9_isStep wsX9_isStep) := goodIn_app (goodIn_of _ (by decide +kernel)) ggX9_race_X9_isStep
set_option maxRecDepth 20000 in
theorem ggX9_race_X9_refuses : GoodIn wsX9_race wsX9_refuses := goodIn_r _ [21, 22, 57, 58, 59, 60, 61, 62, 63, 64, 65, 66, 67, 68, 69, 70, 71, 72, 73, 74, 75, 76, 77, 78] (by decide +kernel) (by decide +kernel)
set_option maxRecDepth 20000 in
theorem gX9_race_X9_refuses : GoodIn wsX9_race (wsV RX9 87 RX9 yX9_refuses wsX9_refuses) := goodIn_app (goodIn_of _ (by decide +kernel)) ggX9_race_X9_refuses
set_option maxRecDepth 20000 in
theorem ggX9_race_X9_spreads : GoodIn wsX9_race wsX9_spreads := goodIn_r _ [26, 27, 28, 29, 30, 31, 4, 32, 13, 14, 15, 16, 17, 33, 34, 35, 36, 37, 38, 39, 40, 57, 58, 59, 60, 61, 62, 63, 64, 65, 66, 67, 68, 69, 70, 71, 72, 73, 74, 75, 76, 77, 78] (by decide +kernel) (by decide +kernel)
set_option maxRecDepth 20000 in
theorem gX9_race_X9_spreads : GoodIn wsX9_race (wsV RX9 173 RX9 yX9_spreads wsX9_spreads) := goodIn_app (goodIn_of _ (by decide +kernel)) ggX9_race_X9_spreads
set_option maxRecDepth 20000 in
theorem ggX9_race_X9_isRace : GoodIn wsX9_race wsX9_isRace := goodIn_r _ [44, 28, 27, 45, 46, 47, 4, 48, 49, 50, 51, 52, 33, 34, 35, 36, 17, 53, 54, 55, 56, 57, 58, 59, 60, 61, 62, 63, 64, 65, 66, 67, 68, 69, 70, 71, 72, 73, 74, 75, 76, 77, 78] (by decide +kernel) (by decide +kernel)
set_option maxRecDepth 20000 in
theorem gX9_race_X9_isRace : GoodIn wsX9_race (wsV RX9 176 RX9 yX9_isRace wsX9_isRace) := goodIn_app (goodIn_of _ (by decide +kernel)) ggX9_race_X9_isRace
theorem dX9_race_0 : decode cX9_race 0 = .ok (.aload_n 0, 1) := by decide +kernel
theorem dX9_race_1 : decode cX9_race 1 = .ok (.iload_n 1, 1) := by decide +kernel
theorem dX9_race_2 : decode cX9_race 2 = .ok (.iload_n 2, 1) := by decide +kernel
theorem dX9_race_3 : decode cX9_race 3 = .ok (.invokevirtual 108, 3) := by decide +kernel
theorem dX9_race_6 : decode cX9_race 6 = .ok (.ifCond .eq 18, 3) := by decide +kernel
theorem dX9_race_9 : decode cX9_race 9 = .ok (.aload_n 0, 1) := by decide +kernel
theorem dX9_race_10 : decode cX9_race 10 = .ok (.iload_n 3, 1) := by decide +kernel
theorem dX9_race_11 : decode cX9_race 11 = .ok (.iload 4, 2) := by decide +kernel
theorem dX9_race_13 : decode cX9_race 13 = .ok (.invokevirtual 108, 3) := by decide +kernel
theorem dX9_race_16 : decode cX9_race 16 = .ok (.ifCond .eq 8, 3) := by decide +kernel
theorem dX9_race_19 : decode cX9_race 19 = .ok (.iload_n 1, 1) := by decide +kernel
theorem dX9_race_20 : decode cX9_race 20 = .ok (.iload_n 3, 1) := by decide +kernel
theorem dX9_race_21 : decode cX9_race 21 = .ok (.if_icmp .ne 10, 3) := by decide +kernel
theorem dX9_race_24 : decode cX9_race 24 = .ok (.aload_n 0, 1) := by decide +kernel
theorem dX9_race_25 : decode cX9_race 25 = .ok (.bipush (-2), 2) := by decide +kernel
theorem dX9_race_27 : decode cX9_race 27 = .ok (.invokevirtual 87, 3) := by decide +kernel
theorem dX9_race_30 : decode cX9_race 30 = .ok (.ireturn, 1) := by decide +kernel
theorem dX9_race_31 : decode cX9_race 31 = .ok (.aload_n 0, 1) := by decide +kernel
theorem dX9_race_32 : decode cX9_race 32 = .ok (.invokevirtual 173, 3) := by decide +kernel
theorem dX9_race_35 : decode cX9_race 35 = .ok (.aload_n 0, 1) := by decide +kernel
theorem dX9_race_36 : decode cX9_race 36 = .ok (.iload_n 1, 1) := by decide +kernel
theorem dX9_race_37 : decode cX9_race 37 = .ok (.iload_n 2, 1) := by decide +kernel
theorem dX9_race_38 : decode cX9_race 38 = .ok (.iload_n 3, 1) := by decide +kernel
theorem dX9_race_39 : decode cX9_race 39 = .ok (.iload 4, 2) := by decide +kernel
theorem dX9_race_41 : decode cX9_race 41 = .ok (.invokevirtual 176, 3) := by decide +kernel
theorem dX9_race_44 : decode cX9_race 44 = .ok (.ifCond .eq 7, 3) := by decide +kernel
theorem dX9_race_47 : decode cX9_race 47 = .ok (.iconst 1, 1) := by decide +kernel
theorem dX9_race_48 : decode cX9_race 48 = .ok (.goto 4, 3) := by decide +kernel
theorem dX9_race_51 : decode cX9_race 51 = .ok (.iconst 0, 1) := by decide +kernel
theorem dX9_race_52 : decode cX9_race 52 = .ok (.ireturn, 1) := by decide +kernel
set_option maxRecDepth 20000 in
theorem ggX9_races_X9_spreads : GoodIn wsX9_races wsX9_spreads := goodIn_r _ [5, 6, 7, 8, 9, 10, 4, 11, 12, 13, 14, 15, 16, 17, 18, 19, 20, 21, 22, 23, 24, 52, 53, 54, 55, 56, 57, 58, 59, 60, 61, 62, 63, 64, 65, 66, 67, 68, 69, 70, 71, 72, 73] (by decide +kernel) (by decide +kernel)
set_option maxRecDepth 20000 in
theorem gX9_races_X9_spreads : GoodIn wsX9_races (wsV RX9 173 RX9 yX9_spreads wsX9_spreads) := goodIn_app (goodIn_of _ (by decide +kernel)) ggX9_races_X9_spreads
set_option maxRecDepth 20000 in
theorem ggX9_races_X9_isStep : GoodIn wsX9_races wsX9_isStep := goodIn_r _ [28, 29, 30, 4, 31, 32, 33, 34, 35, 12, 13, 14, 15, 16, 52, 53, 54, 55, 56, 57, 58, 59, 60, 61, 62, 63, 64, 65, 66, 67, 68, 69, 70, 71, 72, 73] (by decide +kernel) (by decide +kernel)
set_option maxRecDepth 20000 in
theorem gX9_races_X9_isStep : GoodIn wsX9_races (wsV RX9 108 RX9 yX9_isStep wsX9_isStep) := goodIn_app (goodIn_of _ (by decide +kernel)) ggX9_races_X9_isStep
set_option maxRecDepth 20000 in
theorem ggX9_races_X9_isRace : GoodIn wsX9_races wsX9_isRace := goodIn_r _ [39, 7, 6, 40, 41, 42, 4, 43, 44, 45, 46, 47, 17, 18, 19, 20, 16, 48, 49, 50, 51, 52, 53, 54, 55, 56, 57, 58, 59, 60, 61, 62, 63, 64, 65, 66, 67, 68, 69, 70, 71, 72, 73] (by decide +kernel) (by decide +kernel)
set_option maxRecDepth 20000 in
theorem gX9_races_X9_isRace : GoodIn wsX9_races (wsV RX9 176 RX9 yX9_isRace wsX9_isRace) := goodIn_app (goodIn_of _ (by decide +kernel)) ggX9_races_X9_isRace
theorem dX9_races_0 : decode cX9_races 0 = .ok (.aload_n 0, 1) := by decide +kernel
theorem dX9_races_1 : decode cX9_races 1 = .ok (.invokevirtual 173, 3) := by decide +kernel
theorem dX9_races_4 : decode cX9_races 4 = .ok (.iconst 0, 1) := by decide +kernel
theorem dX9_races_5 : decode cX9_races 5 = .ok (.istore_n 1, 1) := by decide +kernel
theorem dX9_races_6 : decode cX9_races 6 = .ok (.iconst 0, 1) := by decide +kernel
theorem dX9_races_7 : decode cX9_races 7 = .ok (.istore_n 2, 1) := by decide +kernel
theorem dX9_races_8 : decode cX9_races 8 = .ok (.iload_n 2, 1) := by decide +kernel
theorem dX9_races_9 : decode cX9_races 9 = .ok (.sipush 144, 3) := by decide +kernel
theorem dX9_races_12 : decode cX9_races 12 = .ok (.if_icmp .ge 83, 3) := by decide +kernel
theorem dX9_races_15 : decode cX9_races 15 = .ok (.iload_n 2, 1) := by decide +kernel
theorem dX9_races_16 : decode cX9_races 16 = .ok (.bipush 48, 2) := by decide +kernel
theorem dX9_races_18 : decode cX9_races 18 = .ok (.idiv, 1) := by decide +kernel
theorem dX9_races_19 : decode cX9_races 19 = .ok (.istore_n 3, 1) := by decide +kernel
theorem dX9_races_20 : decode cX9_races 20 = .ok (.iload_n 2, 1) := by decide +kernel
theorem dX9_races_21 : decode cX9_races 21 = .ok (.bipush 12, 2) := by decide +kernel
theorem dX9_races_23 : decode cX9_races 23 = .ok (.idiv, 1) := by decide +kernel
theorem dX9_races_24 : decode cX9_races 24 = .ok (.iconst 4, 1) := by decide +kernel
theorem dX9_races_25 : decode cX9_races 25 = .ok (.irem, 1) := by decide +kernel
theorem dX9_races_26 : decode cX9_races 26 = .ok (.istore 4, 2) := by decide +kernel
theorem dX9_races_28 : decode cX9_races 28 = .ok (.iload_n 2, 1) := by decide +kernel
theorem dX9_races_29 : decode cX9_races 29 = .ok (.iconst 4, 1) := by decide +kernel
theorem dX9_races_30 : decode cX9_races 30 = .ok (.idiv, 1) := by decide +kernel
theorem dX9_races_31 : decode cX9_races 31 = .ok (.iconst 3, 1) := by decide +kernel
theorem dX9_races_32 : decode cX9_races 32 = .ok (.irem, 1) := by decide +kernel
theorem dX9_races_33 : decode cX9_races 33 = .ok (.istore 5, 2) := by decide +kernel
theorem dX9_races_35 : decode cX9_races 35 = .ok (.iload_n 2, 1) := by decide +kernel
theorem dX9_races_36 : decode cX9_races 36 = .ok (.iconst 4, 1) := by decide +kernel
theorem dX9_races_37 : decode cX9_races 37 = .ok (.irem, 1) := by decide +kernel
theorem dX9_races_38 : decode cX9_races 38 = .ok (.istore 6, 2) := by decide +kernel
theorem dX9_races_40 : decode cX9_races 40 = .ok (.iload_n 1, 1) := by decide +kernel
theorem dX9_races_41 : decode cX9_races 41 = .ok (.iload_n 3, 1) := by decide +kernel
theorem dX9_races_42 : decode cX9_races 42 = .ok (.iload 5, 2) := by decide +kernel
theorem dX9_races_44 : decode cX9_races 44 = .ok (.if_icmp .ge 42, 3) := by decide +kernel
theorem dX9_races_47 : decode cX9_races 47 = .ok (.aload_n 0, 1) := by decide +kernel
theorem dX9_races_48 : decode cX9_races 48 = .ok (.iload_n 3, 1) := by decide +kernel
theorem dX9_races_49 : decode cX9_races 49 = .ok (.iload 4, 2) := by decide +kernel
theorem dX9_races_51 : decode cX9_races 51 = .ok (.invokevirtual 108, 3) := by decide +kernel
theorem dX9_races_54 : decode cX9_races 54 = .ok (.ifCond .eq 32, 3) := by decide +kernel
theorem dX9_races_57 : decode cX9_races 57 = .ok (.aload_n 0, 1) := by decide +kernel
theorem dX9_races_58 : decode cX9_races 58 = .ok (.iload 5, 2) := by decide +kernel
theorem dX9_races_60 : decode cX9_races 60 = .ok (.iload 6, 2) := by decide +kernel
theorem dX9_races_62 : decode cX9_races 62 = .ok (.invokevirtual 108, 3) := by decide +kernel
theorem dX9_races_65 : decode cX9_races 65 = .ok (.ifCond .eq 21, 3) := by decide +kernel
theorem dX9_races_68 : decode cX9_races 68 = .ok (.aload_n 0, 1) := by decide +kernel
theorem dX9_races_69 : decode cX9_races 69 = .ok (.iload_n 3, 1) := by decide +kernel
theorem dX9_races_70 : decode cX9_races 70 = .ok (.iload 4, 2) := by decide +kernel
theorem dX9_races_72 : decode cX9_races 72 = .ok (.iload 5, 2) := by decide +kernel
theorem dX9_races_74 : decode cX9_races 74 = .ok (.iload 6, 2) := by decide +kernel
theorem dX9_races_76 : decode cX9_races 76 = .ok (.invokevirtual 176, 3) := by decide +kernel
theorem dX9_races_79 : decode cX9_races 79 = .ok (.ifCond .eq 7, 3) := by decide +kernel
theorem dX9_races_82 : decode cX9_races 82 = .ok (.iconst 1, 1) := by decide +kernel
theorem dX9_races_83 : decode cX9_races 83 = .ok (.goto 4, 3) := by decide +kernel
theorem dX9_races_86 : decode cX9_races 86 = .ok (.iconst 0, 1) := by decide +kernel
theorem dX9_races_87 : decode cX9_races 87 = .ok (.iadd, 1) := by decide +kernel
theorem dX9_races_88 : decode cX9_races 88 = .ok (.istore_n 1, 1) := by decide +kernel
theorem dX9_races_89 : decode cX9_races 89 = .ok (.iinc 2 1, 3) := by decide +kernel
theorem dX9_races_92 : decode cX9_races 92 = .ok (.goto (-84), 3) := by decide +kernel
theorem dX9_races_95 : decode cX9_races 95 = .ok (.iload_n 1, 1) := by decide +kernel
theorem dX9_races_96 : decode cX9_races 96 = .ok (.ireturn, 1) := by decide +kernel
set_option maxRecDepth 20000 in
theorem ggX9_goesRun_X9_starts : GoodIn wsX9_goesRun wsX9_starts := goodIn_r _ [7, 8, 9, 2, 24, 25, 26, 27, 28, 29, 30, 31, 32, 33, 34, 35, 36, 37, 38, 39, 40, 41, 42, 43, 44, 45] (by decide +kernel) (by decide +kernel)
