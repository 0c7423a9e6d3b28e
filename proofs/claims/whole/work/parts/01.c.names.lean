theorem dX5_hasSameThreads_45 : decode cX5_hasSameThreads 45 = .ok (.iload_n 2, 1) := by decide +kernel
theorem dX5_hasSameThreads_46 : decode cX5_hasSameThreads 46 = .ok (.iaload, 1) := by decide +kernel
theorem dX5_hasSameThreads_47 : decode cX5_hasSameThreads 47 = .ok (.if_icmp .ge 26, 3) := by decide +kernel
theorem dX5_hasSameThreads_50 : decode cX5_hasSameThreads 50 = .ok (.aload_n 0, 1) := by decide +kernel
theorem dX5_hasSameThreads_51 : decode cX5_hasSameThreads 51 = .ok (.iload_n 2, 1) := by decide +kernel
theorem dX5_hasSameThreads_52 : decode cX5_hasSameThreads 52 = .ok (.iload_n 3, 1) := by decide +kernel
theorem dX5_hasSameThreads_53 : decode cX5_hasSameThreads 53 = .ok (.invokevirtual 35, 3) := by decide +kernel
theorem dX5_hasSameThreads_56 : decode cX5_hasSameThreads 56 = .ok (.aload_n 1, 1) := by decide +kernel
theorem dX5_hasSameThreads_57 : decode cX5_hasSameThreads 57 = .ok (.iload_n 2, 1) := by decide +kernel
theorem dX5_hasSameThreads_58 : decode cX5_hasSameThreads 58 = .ok (.iload_n 3, 1) := by decide +kernel
theorem dX5_hasSameThreads_59 : decode cX5_hasSameThreads 59 = .ok (.invokevirtual 35, 3) := by decide +kernel
theorem dX5_hasSameThreads_62 : decode cX5_hasSameThreads 62 = .ok (.if_icmp .eq 5, 3) := by decide +kernel
theorem dX5_hasSameThreads_65 : decode cX5_hasSameThreads 65 = .ok (.iconst 0, 1) := by decide +kernel
theorem dX5_hasSameThreads_66 : decode cX5_hasSameThreads 66 = .ok (.ireturn, 1) := by decide +kernel
theorem dX5_hasSameThreads_67 : decode cX5_hasSameThreads 67 = .ok (.iinc 3 1, 3) := by decide +kernel
theorem dX5_hasSameThreads_70 : decode cX5_hasSameThreads 70 = .ok (.goto (-30), 3) := by decide +kernel
theorem dX5_hasSameThreads_73 : decode cX5_hasSameThreads 73 = .ok (.iinc 2 1, 3) := by decide +kernel
theorem dX5_hasSameThreads_76 : decode cX5_hasSameThreads 76 = .ok (.goto (-60), 3) := by decide +kernel
theorem dX5_hasSameThreads_79 : decode cX5_hasSameThreads 79 = .ok (.iconst 1, 1) := by decide +kernel
theorem dX5_hasSameThreads_80 : decode cX5_hasSameThreads 80 = .ok (.ireturn, 1) := by decide +kernel
set_option maxRecDepth 20000 in
theorem ggX5_stepsOf_X8_below : GoodIn wsX5_stepsOf wsX8_below := goodIn_r _ [4] (by decide +kernel) (by decide +kernel)
set_option maxRecDepth 20000 in
theorem gX5_stepsOf_X8_below_n39 : GoodIn wsX5_stepsOf (wsX8_below) := ggX5_stepsOf_X8_below
theorem dX5_stepsOf_0 : decode cX5_stepsOf 0 = .ok (.iload_n 1, 1) := by decide +kernel
theorem dX5_stepsOf_1 : decode cX5_stepsOf 1 = .ok (.iconst 3, 1) := by decide +kernel
theorem dX5_stepsOf_2 : decode cX5_stepsOf 2 = .ok (.invokestatic 39, 3) := by decide +kernel
theorem dX5_stepsOf_5 : decode cX5_stepsOf 5 = .ok (.ifCond .eq 12, 3) := by decide +kernel
theorem dX5_stepsOf_8 : decode cX5_stepsOf 8 = .ok (.aload_n 0, 1) := by decide +kernel
theorem dX5_stepsOf_9 : decode cX5_stepsOf 9 = .ok (.getfield 15, 3) := by decide +kernel
theorem dX5_stepsOf_12 : decode cX5_stepsOf 12 = .ok (.iload_n 1, 1) := by decide +kernel
theorem dX5_stepsOf_13 : decode cX5_stepsOf 13 = .ok (.iaload, 1) := by decide +kernel
theorem dX5_stepsOf_14 : decode cX5_stepsOf 14 = .ok (.goto 4, 3) := by decide +kernel
theorem dX5_stepsOf_17 : decode cX5_stepsOf 17 = .ok (.iconst 0, 1) := by decide +kernel
theorem dX5_stepsOf_18 : decode cX5_stepsOf 18 = .ok (.ireturn, 1) := by decide +kernel
theorem dX5_stepsInAll_0 : decode cX5_stepsInAll 0 = .ok (.iconst 0, 1) := by decide +kernel
theorem dX5_stepsInAll_1 : decode cX5_stepsInAll 1 = .ok (.istore_n 1, 1) := by decide +kernel
theorem dX5_stepsInAll_2 : decode cX5_stepsInAll 2 = .ok (.iconst 0, 1) := by decide +kernel
theorem dX5_stepsInAll_3 : decode cX5_stepsInAll 3 = .ok (.istore_n 2, 1) := by decide +kernel
theorem dX5_stepsInAll_4 : decode cX5_stepsInAll 4 = .ok (.iload_n 2, 1) := by decide +kernel
theorem dX5_stepsInAll_5 : decode cX5_stepsInAll 5 = .ok (.iconst 3, 1) := by decide +kernel
theorem dX5_stepsInAll_6 : decode cX5_stepsInAll 6 = .ok (.if_icmp .ge 18, 3) := by decide +kernel
theorem dX5_stepsInAll_9 : decode cX5_stepsInAll 9 = .ok (.iload_n 1, 1) := by decide +kernel
theorem dX5_stepsInAll_10 : decode cX5_stepsInAll 10 = .ok (.aload_n 0, 1) := by decide +kernel
theorem dX5_stepsInAll_11 : decode cX5_stepsInAll 11 = .ok (.getfield 15, 3) := by decide +kernel
theorem dX5_stepsInAll_14 : decode cX5_stepsInAll 14 = .ok (.iload_n 2, 1) := by decide +kernel
theorem dX5_stepsInAll_15 : decode cX5_stepsInAll 15 = .ok (.iaload, 1) := by decide +kernel
theorem dX5_stepsInAll_16 : decode cX5_stepsInAll 16 = .ok (.iadd, 1) := by decide +kernel
theorem dX5_stepsInAll_17 : decode cX5_stepsInAll 17 = .ok (.istore_n 1, 1) := by decide +kernel
theorem dX5_stepsInAll_18 : decode cX5_stepsInAll 18 = .ok (.iinc 2 1, 3) := by decide +kernel
theorem dX5_stepsInAll_21 : decode cX5_stepsInAll 21 = .ok (.goto (-17), 3) := by decide +kernel
theorem dX5_stepsInAll_24 : decode cX5_stepsInAll 24 = .ok (.iload_n 1, 1) := by decide +kernel
theorem dX5_stepsInAll_25 : decode cX5_stepsInAll 25 = .ok (.ireturn, 1) := by decide +kernel
set_option maxRecDepth 20000 in
theorem ggX5_hasStep_X5_stepsOf : GoodIn wsX5_hasStep wsX5_stepsOf := goodIn_r _ [5, 6, 7, 8, 9, 10, 11, 12, 13, 14] (by decide +kernel) (by decide +kernel)
set_option maxRecDepth 20000 in
theorem gX5_hasStep_X5_stepsOf : GoodIn wsX5_hasStep (wsV RX5 43 RX5 yX5_stepsOf wsX5_stepsOf) := goodIn_app (goodIn_of _ (by decide +kernel)) ggX5_hasStep_X5_stepsOf
theorem dX5_hasStep_0 : decode cX5_hasStep 0 = .ok (.iload_n 2, 1) := by decide +kernel
theorem dX5_hasStep_1 : decode cX5_hasStep 1 = .ok (.ifCond .lt 16, 3) := by decide +kernel
theorem dX5_hasStep_4 : decode cX5_hasStep 4 = .ok (.iload_n 2, 1) := by decide +kernel
theorem dX5_hasStep_5 : decode cX5_hasStep 5 = .ok (.aload_n 0, 1) := by decide +kernel
theorem dX5_hasStep_6 : decode cX5_hasStep 6 = .ok (.iload_n 1, 1) := by decide +kernel
theorem dX5_hasStep_7 : decode cX5_hasStep 7 = .ok (.invokevirtual 43, 3) := by decide +kernel
theorem dX5_hasStep_10 : decode cX5_hasStep 10 = .ok (.if_icmp .ge 7, 3) := by decide +kernel
theorem dX5_hasStep_13 : decode cX5_hasStep 13 = .ok (.iconst 1, 1) := by decide +kernel
theorem dX5_hasStep_14 : decode cX5_hasStep 14 = .ok (.goto 4, 3) := by decide +kernel
theorem dX5_hasStep_17 : decode cX5_hasStep 17 = .ok (.iconst 0, 1) := by decide +kernel
theorem dX5_hasStep_18 : decode cX5_hasStep 18 = .ok (.ireturn, 1) := by decide +kernel
theorem dX5_stepAt_0 : decode cX5_stepAt 0 = .ok (.iload_n 1, 1) := by decide +kernel
theorem dX5_stepAt_1 : decode cX5_stepAt 1 = .ok (.ifCond .lt 26, 3) := by decide +kernel
theorem dX5_stepAt_4 : decode cX5_stepAt 4 = .ok (.iload_n 1, 1) := by decide +kernel
theorem dX5_stepAt_5 : decode cX5_stepAt 5 = .ok (.iconst 3, 1) := by decide +kernel
theorem dX5_stepAt_6 : decode cX5_stepAt 6 = .ok (.if_icmp .ge 21, 3) := by decide +kernel
theorem dX5_stepAt_9 : decode cX5_stepAt 9 = .ok (.iload_n 2, 1) := by decide +kernel
theorem dX5_stepAt_10 : decode cX5_stepAt 10 = .ok (.ifCond .lt 17, 3) := by decide +kernel
theorem dX5_stepAt_13 : decode cX5_stepAt 13 = .ok (.iload_n 2, 1) := by decide +kernel
theorem dX5_stepAt_14 : decode cX5_stepAt 14 = .ok (.aload_n 0, 1) := by decide +kernel
theorem dX5_stepAt_15 : decode cX5_stepAt 15 = .ok (.getfield 15, 3) := by decide +kernel
theorem dX5_stepAt_18 : decode cX5_stepAt 18 = .ok (.iload_n 1, 1) := by decide +kernel
theorem dX5_stepAt_19 : decode cX5_stepAt 19 = .ok (.iaload, 1) := by decide +kernel
theorem dX5_stepAt_20 : decode cX5_stepAt 20 = .ok (.if_icmp .ge 7, 3) := by decide +kernel
theorem dX5_stepAt_23 : decode cX5_stepAt 23 = .ok (.iconst 1, 1) := by decide +kernel
theorem dX5_stepAt_24 : decode cX5_stepAt 24 = .ok (.goto 4, 3) := by decide +kernel
theorem dX5_stepAt_27 : decode cX5_stepAt 27 = .ok (.iconst 0, 1) := by decide +kernel
theorem dX5_stepAt_28 : decode cX5_stepAt 28 = .ok (.istore_n 3, 1) := by decide +kernel
theorem dX5_stepAt_29 : decode cX5_stepAt 29 = .ok (.iload_n 3, 1) := by decide +kernel
theorem dX5_stepAt_30 : decode cX5_stepAt 30 = .ok (.ifCond .eq 16, 3) := by decide +kernel
theorem dX5_stepAt_33 : decode cX5_stepAt 33 = .ok (.aload_n 0, 1) := by decide +kernel
theorem dX5_stepAt_34 : decode cX5_stepAt 34 = .ok (.getfield 9, 3) := by decide +kernel
theorem dX5_stepAt_37 : decode cX5_stepAt 37 = .ok (.iload_n 1, 1) := by decide +kernel
theorem dX5_stepAt_38 : decode cX5_stepAt 38 = .ok (.iconst 4, 1) := by decide +kernel
theorem dX5_stepAt_39 : decode cX5_stepAt 39 = .ok (.imul, 1) := by decide +kernel
theorem dX5_stepAt_40 : decode cX5_stepAt 40 = .ok (.iload_n 2, 1) := by decide +kernel
theorem dX5_stepAt_41 : decode cX5_stepAt 41 = .ok (.iadd, 1) := by decide +kernel
theorem dX5_stepAt_42 : decode cX5_stepAt 42 = .ok (.iaload, 1) := by decide +kernel
theorem dX5_stepAt_43 : decode cX5_stepAt 43 = .ok (.goto 4, 3) := by decide +kernel
theorem dX5_stepAt_46 : decode cX5_stepAt 46 = .ok (.iconst (-1), 1) := by decide +kernel
theorem dX5_stepAt_47 : decode cX5_stepAt 47 = .ok (.ireturn, 1) := by decide +kernel
set_option maxRecDepth 20000 in
theorem ggX5_addStep_X8_below : GoodIn wsX5_addStep wsX8_below := goodIn_r _ [5] (by decide +kernel) (by decide +kernel)
set_option maxRecDepth 20000 in
theorem gX5_addStep_X8_below_n39 : GoodIn wsX5_addStep (wsX8_below) := ggX5_addStep_X8_below
set_option maxRecDepth 20000 in
theorem ggX5_addStep_X5_beginRun : GoodIn wsX5_addStep wsX5_beginRun := goodIn_r _ [10, 11, 12, 13, 14, 15, 16, 17, 18] (by decide +kernel) (by decide +kernel)
set_option maxRecDepth 20000 in
theorem gX5_addStep_X5_beginRun : GoodIn wsX5_addStep (wsV RX5 47 RX5 yX5_beginRun wsX5_beginRun) := goodIn_app (goodIn_of _ (by decide +kernel)) ggX5_addStep_X5_beginRun
theorem dX5_addStep_0 : decode cX5_addStep 0 = .ok (.iload_n 1, 1) := by decide +kernel
theorem dX5_addStep_1 : decode cX5_addStep 1 = .ok (.iconst 3, 1) := by decide +kernel
theorem dX5_addStep_2 : decode cX5_addStep 2 = .ok (.invokestatic 39, 3) := by decide +kernel
theorem dX5_addStep_5 : decode cX5_addStep 5 = .ok (.ifCond .eq 43, 3) := by decide +kernel
theorem dX5_addStep_8 : decode cX5_addStep 8 = .ok (.aload_n 0, 1) := by decide +kernel
theorem dX5_addStep_9 : decode cX5_addStep 9 = .ok (.getfield 15, 3) := by decide +kernel
theorem dX5_addStep_12 : decode cX5_addStep 12 = .ok (.iload_n 1, 1) := by decide +kernel
theorem dX5_addStep_13 : decode cX5_addStep 13 = .ok (.iaload, 1) := by decide +kernel
theorem dX5_addStep_14 : decode cX5_addStep 14 = .ok (.iconst 4, 1) := by decide +kernel
theorem dX5_addStep_15 : decode cX5_addStep 15 = .ok (.if_icmp .ge 33, 3) := by decide +kernel
theorem dX5_addStep_18 : decode cX5_addStep 18 = .ok (.aload_n 0, 1) := by decide +kernel
theorem dX5_addStep_19 : decode cX5_addStep 19 = .ok (.getfield 9, 3) := by decide +kernel
theorem dX5_addStep_22 : decode cX5_addStep 22 = .ok (.iload_n 1, 1) := by decide +kernel
theorem dX5_addStep_23 : decode cX5_addStep 23 = .ok (.iconst 4, 1) := by decide +kernel
theorem dX5_addStep_24 : decode cX5_addStep 24 = .ok (.imul, 1) := by decide +kernel
theorem dX5_addStep_25 : decode cX5_addStep 25 = .ok (.aload_n 0, 1) := by decide +kernel
theorem dX5_addStep_26 : decode cX5_addStep 26 = .ok (.getfield 15, 3) := by decide +kernel
theorem dX5_addStep_29 : decode cX5_addStep 29 = .ok (.iload_n 1, 1) := by decide +kernel
theorem dX5_addStep_30 : decode cX5_addStep 30 = .ok (.iaload, 1) := by decide +kernel
theorem dX5_addStep_31 : decode cX5_addStep 31 = .ok (.iadd, 1) := by decide +kernel
theorem dX5_addStep_32 : decode cX5_addStep 32 = .ok (.iload_n 2, 1) := by decide +kernel
theorem dX5_addStep_33 : decode cX5_addStep 33 = .ok (.iastore, 1) := by decide +kernel
theorem dX5_addStep_34 : decode cX5_addStep 34 = .ok (.aload_n 0, 1) := by decide +kernel
theorem dX5_addStep_35 : decode cX5_addStep 35 = .ok (.getfield 15, 3) := by decide +kernel
theorem dX5_addStep_38 : decode cX5_addStep 38 = .ok (.iload_n 1, 1) := by decide +kernel
theorem dX5_addStep_39 : decode cX5_addStep 39 = .ok (.dup2, 1) := by decide +kernel
theorem dX5_addStep_40 : decode cX5_addStep 40 = .ok (.iaload, 1) := by decide +kernel
theorem dX5_addStep_41 : decode cX5_addStep 41 = .ok (.iconst 1, 1) := by decide +kernel
theorem dX5_addStep_42 : decode cX5_addStep 42 = .ok (.iadd, 1) := by decide +kernel
theorem dX5_addStep_43 : decode cX5_addStep 43 = .ok (.iastore, 1) := by decide +kernel
theorem dX5_addStep_44 : decode cX5_addStep 44 = .ok (.aload_n 0, 1) := by decide +kernel
theorem dX5_addStep_45 : decode cX5_addStep 45 = .ok (.invokevirtual 47, 3) := by decide +kernel
theorem dX5_addStep_48 : decode cX5_addStep 48 = .ok (.return_, 1) := by decide +kernel
set_option maxRecDepth 20000 in
theorem ggX5_dropStep_X8_below : GoodIn wsX5_dropStep wsX8_below := goodIn_r _ [4] (by decide +kernel) (by decide +kernel)
set_option maxRecDepth 20000 in
theorem gX5_dropStep_X8_below_n39 : GoodIn wsX5_dropStep (wsX8_below) := ggX5_dropStep_X8_below
set_option maxRecDepth 20000 in
theorem ggX5_dropStep_X5_beginRun : GoodIn wsX5_dropStep wsX5_beginRun := goodIn_r _ [9, 10, 11, 12, 13, 14, 15, 16, 17] (by decide +kernel) (by decide +kernel)
set_option maxRecDepth 20000 in
theorem gX5_dropStep_X5_beginRun : GoodIn wsX5_dropStep (wsV RX5 47 RX5 yX5_beginRun wsX5_beginRun) := goodIn_app (goodIn_of _ (by decide +kernel)) ggX5_dropStep_X5_beginRun
theorem dX5_dropStep_0 : decode cX5_dropStep 0 = .ok (.iload_n 1, 1) := by decide +kernel
theorem dX5_dropStep_1 : decode cX5_dropStep 1 = .ok (.iconst 3, 1) := by decide +kernel
theorem dX5_dropStep_2 : decode cX5_dropStep 2 = .ok (.invokestatic 39, 3) := by decide +kernel
theorem dX5_dropStep_5 : decode cX5_dropStep 5 = .ok (.ifCond .eq 26, 3) := by decide +kernel
theorem dX5_dropStep_8 : decode cX5_dropStep 8 = .ok (.aload_n 0, 1) := by decide +kernel
theorem dX5_dropStep_9 : decode cX5_dropStep 9 = .ok (.getfield 15, 3) := by decide +kernel
theorem dX5_dropStep_12 : decode cX5_dropStep 12 = .ok (.iload_n 1, 1) := by decide +kernel
theorem dX5_dropStep_13 : decode cX5_dropStep 13 = .ok (.iaload, 1) := by decide +kernel
theorem dX5_dropStep_14 : decode cX5_dropStep 14 = .ok (.ifCond .le 17, 3) := by decide +kernel
theorem dX5_dropStep_17 : decode cX5_dropStep 17 = .ok (.aload_n 0, 1) := by decide +kernel
theorem dX5_dropStep_18 : decode cX5_dropStep 18 = .ok (.getfield 15, 3) := by decide +kernel
theorem dX5_dropStep_21 : decode cX5_dropStep 21 = .ok (.iload_n 1, 1) := by decide +kernel
theorem dX5_dropStep_22 : decode cX5_dropStep 22 = .ok (.dup2, 1) := by decide +kernel
theorem dX5_dropStep_23 : decode cX5_dropStep 23 = .ok (.iaload, 1) := by decide +kernel
theorem dX5_dropStep_24 : decode cX5_dropStep 24 = .ok (.iconst 1, 1) := by decide +kernel
theorem dX5_dropStep_25 : decode cX5_dropStep 25 = .ok (.isub, 1) := by decide +kernel
theorem dX5_dropStep_26 : decode cX5_dropStep 26 = .ok (.iastore, 1) := by decide +kernel
theorem dX5_dropStep_27 : decode cX5_dropStep 27 = .ok (.aload_n 0, 1) := by decide +kernel
theorem dX5_dropStep_28 : decode cX5_dropStep 28 = .ok (.invokevirtual 47, 3) := by decide +kernel
theorem dX5_dropStep_31 : decode cX5_dropStep 31 = .ok (.return_, 1) := by decide +kernel
theorem dX5_beginning_0 : decode cX5_beginning 0 = .ok (.aload_n 0, 1) := by decide +kernel
theorem dX5_beginning_1 : decode cX5_beginning 1 = .ok (.getfield 24, 3) := by decide +kernel
theorem dX5_beginning_4 : decode cX5_beginning 4 = .ok (.lreturn, 1) := by decide +kernel
set_option maxRecDepth 20000 in
theorem ggX5_setBeginning_X2_withValue : GoodIn wsX5_setBeginning wsX2_withValue := goodIn_r _ [5, 6, 7, 4, 8, 9, 10] (by decide +kernel) (by decide +kernel)
set_option maxRecDepth 20000 in
theorem gX5_setBeginning_X2_withValue : GoodIn wsX5_setBeginning (va_wsS RX5 50 yX2_withValue wsX2_withValue) := goodIn_app (goodIn_of _ (by decide +kernel)) ggX5_setBeginning_X2_withValue
set_option maxRecDepth 20000 in
theorem ggX5_setBeginning_X5_beginRun : GoodIn wsX5_setBeginning wsX5_beginRun := goodIn_r _ [15, 1, 16, 17, 18, 19, 20, 21, 22] (by decide +kernel) (by decide +kernel)
set_option maxRecDepth 20000 in
theorem gX5_setBeginning_X5_beginRun : GoodIn wsX5_setBeginning (wsV RX5 47 RX5 yX5_beginRun wsX5_beginRun) := goodIn_app (goodIn_of _ (by decide +kernel)) ggX5_setBeginning_X5_beginRun
theorem dX5_setBeginning_0 : decode cX5_setBeginning 0 = .ok (.aload_n 0, 1) := by decide +kernel
theorem dX5_setBeginning_1 : decode cX5_setBeginning 1 = .ok (.aload_n 0, 1) := by decide +kernel
theorem dX5_setBeginning_2 : decode cX5_setBeginning 2 = .ok (.getfield 24, 3) := by decide +kernel
theorem dX5_setBeginning_5 : decode cX5_setBeginning 5 = .ok (.iload_n 1, 1) := by decide +kernel
theorem dX5_setBeginning_6 : decode cX5_setBeginning 6 = .ok (.iload_n 2, 1) := by decide +kernel
theorem dX5_setBeginning_7 : decode cX5_setBeginning 7 = .ok (.invokestatic 50, 3) := by decide +kernel
theorem dX5_setBeginning_10 : decode cX5_setBeginning 10 = .ok (.putfield 24, 3) := by decide +kernel
theorem dX5_setBeginning_13 : decode cX5_setBeginning 13 = .ok (.aload_n 0, 1) := by decide +kernel
theorem dX5_setBeginning_14 : decode cX5_setBeginning 14 = .ok (.invokevirtual 47, 3) := by decide +kernel
theorem dX5_setBeginning_17 : decode cX5_setBeginning 17 = .ok (.return_, 1) := by decide +kernel
theorem dX5_runMoment_0 : decode cX5_runMoment 0 = .ok (.aload_n 0, 1) := by decide +kernel
theorem dX5_runMoment_1 : decode cX5_runMoment 1 = .ok (.getfield 28, 3) := by decide +kernel
theorem dX5_runMoment_4 : decode cX5_runMoment 4 = .ok (.lreturn, 1) := by decide +kernel
theorem dX5_runRow_0 : decode cX5_runRow 0 = .ok (.aload_n 0, 1) := by decide +kernel
theorem dX5_runRow_1 : decode cX5_runRow 1 = .ok (.getfield 31, 3) := by decide +kernel
theorem dX5_runRow_4 : decode cX5_runRow 4 = .ok (.ireturn, 1) := by decide +kernel
theorem dX5_beginRun_0 : decode cX5_beginRun 0 = .ok (.aload_n 0, 1) := by decide +kernel
theorem dX5_beginRun_1 : decode cX5_beginRun 1 = .ok (.aload_n 0, 1) := by decide +kernel
theorem dX5_beginRun_2 : decode cX5_beginRun 2 = .ok (.getfield 24, 3) := by decide +kernel
theorem dX5_beginRun_5 : decode cX5_beginRun 5 = .ok (.putfield 28, 3) := by decide +kernel
theorem dX5_beginRun_8 : decode cX5_beginRun 8 = .ok (.aload_n 0, 1) := by decide +kernel
theorem dX5_beginRun_9 : decode cX5_beginRun 9 = .ok (.iconst 0, 1) := by decide +kernel
theorem dX5_beginRun_10 : decode cX5_beginRun 10 = .ok (.putfield 31, 3) := by decide +kernel
theorem dX5_beginRun_13 : decode cX5_beginRun 13 = .ok (.return_, 1) := by decide +kernel
set_option maxRecDepth 20000 in
theorem ggX5_runOn_X5_firstPlace : GoodIn wsX5_runOn wsX5_firstPlace := goodIn_r _ [7, 2, 1, 8, 9, 10, 6, 11, 12, 13, 14, 15, 16, 17, 18, 19, 20, 21, 22, 23, 24, 25, 26, 27, 28, 29, 30, 31, 32, 33, 34, 35, 36, 37, 38, 39, 40, 41, 42, 43, 44, 45, 46, 47, 48, 49, 50, 51, 52, 53, 54, 55, 56, 57, 58, 59, 60, 61, 62, 63, 64, 65, 66, 67, 94, 95, 96, 97, 98] (by decide +kernel) (by decide +kernel)
set_option maxRecDepth 20000 in
theorem gX5_runOn_X5_firstPlace : GoodIn wsX5_runOn (wsV RX5 56 RX5 yX5_firstPlace wsX5_firstPlace) := goodIn_app (goodIn_of _ (by decide +kernel)) ggX5_runOn_X5_firstPlace
set_option maxRecDepth 20000 in
theorem ggX5_runOn_X4_withThreadAt : GoodIn wsX5_runOn wsX4_withThreadAt := goodIn_r _ [70, 71, 26, 27, 28] (by decide +kernel) (by decide +kernel)
set_option maxRecDepth 20000 in
theorem gX5_runOn_X4_withThreadAt : GoodIn wsX5_runOn (va_wsS RX5 59 yX4_withThreadAt wsX4_withThreadAt) := goodIn_app (goodIn_of _ (by decide +kernel)) ggX5_runOn_X4_withThreadAt
set_option maxRecDepth 20000 in
theorem ggX5_runOn_X5_stepDone : GoodIn wsX5_runOn wsX5_stepDone := goodIn_r _ [75, 8, 9, 10, 6, 11, 12, 13, 14, 15, 16, 17, 18, 19, 20, 21, 22, 23, 24, 32, 33, 34, 35, 36, 37, 38, 39, 76, 54, 42, 55, 77, 60, 61, 78, 79, 80, 81, 51, 52, 82, 83, 84, 85, 86, 87, 88, 89, 90, 91, 92, 93, 94, 95, 96, 97, 98] (by decide +kernel) (by decide +kernel)
set_option maxRecDepth 20000 in
theorem gX5_runOn_X5_stepDone : GoodIn wsX5_runOn (wsV RX5 65 RX5 yX5_stepDone wsX5_stepDone) := goodIn_app (goodIn_of _ (by decide +kernel)) ggX5_runOn_X5_stepDone
theorem dX5_runOn_0 : decode cX5_runOn 0 = .ok (.aload_n 0, 1) := by decide +kernel
theorem dX5_runOn_1 : decode cX5_runOn 1 = .ok (.aload_n 0, 1) := by decide +kernel
theorem dX5_runOn_2 : decode cX5_runOn 2 = .ok (.getfield 31, 3) := by decide +kernel
theorem dX5_runOn_5 : decode cX5_runOn 5 = .ok (.aload_n 0, 1) := by decide +kernel
theorem dX5_runOn_6 : decode cX5_runOn 6 = .ok (.iload_n 1, 1) := by decide +kernel
theorem dX5_runOn_7 : decode cX5_runOn 7 = .ok (.invokevirtual 56, 3) := by decide +kernel
theorem dX5_runOn_10 : decode cX5_runOn 10 = .ok (.iload_n 1, 1) := by decide +kernel
theorem dX5_runOn_11 : decode cX5_runOn 11 = .ok (.invokestatic 59, 3) := by decide +kernel
theorem dX5_runOn_14 : decode cX5_runOn 14 = .ok (.putfield 31, 3) := by decide +kernel
theorem dX5_runOn_17 : decode cX5_runOn 17 = .ok (.aload_n 0, 1) := by decide +kernel
theorem dX5_runOn_18 : decode cX5_runOn 18 = .ok (.aload_n 0, 1) := by decide +kernel
theorem dX5_runOn_19 : decode cX5_runOn 19 = .ok (.aload_n 0, 1) := by decide +kernel
theorem dX5_runOn_20 : decode cX5_runOn 20 = .ok (.getfield 28, 3) := by decide +kernel
theorem dX5_runOn_23 : decode cX5_runOn 23 = .ok (.iload_n 1, 1) := by decide +kernel
theorem dX5_runOn_24 : decode cX5_runOn 24 = .ok (.invokevirtual 65, 3) := by decide +kernel
theorem dX5_runOn_27 : decode cX5_runOn 27 = .ok (.putfield 28, 3) := by decide +kernel
theorem dX5_runOn_30 : decode cX5_runOn 30 = .ok (.return_, 1) := by decide +kernel
set_option maxRecDepth 20000 in
theorem ggX5_firstPlace_X5_nextStep : GoodIn wsX5_firstPlace wsX5_nextStep := goodIn_r _ [7, 8, 9, 10, 11, 12, 13, 14, 15, 16, 17, 6, 18, 19, 20, 64, 65, 66, 67, 68] (by decide +kernel) (by decide +kernel)
set_option maxRecDepth 20000 in
theorem gX5_firstPlace_X5_nextStep : GoodIn wsX5_firstPlace (wsV RX5 69 RX5 yX5_nextStep wsX5_nextStep) := goodIn_app (goodIn_of _ (by decide +kernel)) ggX5_firstPlace_X5_nextStep
set_option maxRecDepth 20000 in
theorem ggX5_firstPlace_X4_length : GoodIn wsX5_firstPlace wsX4_length := goodIn_r _ [24] (by decide +kernel) (by decide +kernel)
set_option maxRecDepth 20000 in
theorem gX5_firstPlace_X4_length : GoodIn wsX5_firstPlace (va_wsS RX5 73 yX4_length wsX4_length) := goodIn_app (goodIn_of _ (by decide +kernel)) ggX5_firstPlace_X4_length
set_option maxRecDepth 20000 in
theorem ggX5_firstPlace_X4_threadAt : GoodIn wsX5_firstPlace wsX4_threadAt := goodIn_r _ [27] (by decide +kernel) (by decide +kernel)
set_option maxRecDepth 20000 in
theorem gX5_firstPlace_X4_threadAt : GoodIn wsX5_firstPlace (va_wsS RX5 76 yX4_threadAt wsX4_threadAt) := goodIn_app (goodIn_of _ (by decide +kernel)) ggX5_firstPlace_X4_threadAt
set_option maxRecDepth 20000 in
theorem ggX5_firstPlace_X2_doneOf : GoodIn wsX5_firstPlace wsX2_doneOf := goodIn_r _ [11, 12, 13, 10, 14] (by decide +kernel) (by decide +kernel)
set_option maxRecDepth 20000 in
theorem gX5_firstPlace_X2_doneOf : GoodIn wsX5_firstPlace (va_wsS RX5 79 yX2_doneOf wsX2_doneOf) := goodIn_app (goodIn_of _ (by decide +kernel)) ggX5_firstPlace_X2_doneOf
set_option maxRecDepth 20000 in
theorem ggX5_firstPlace_X2_withDone : GoodIn wsX5_firstPlace wsX2_withDone := goodIn_r _ [30, 31, 32, 10, 33, 34, 35] (by decide +kernel) (by decide +kernel)
set_option maxRecDepth 20000 in
theorem gX5_firstPlace_X2_withDone : GoodIn wsX5_firstPlace (va_wsS RX5 82 yX2_withDone wsX2_withDone) := goodIn_app (goodIn_of _ (by decide +kernel)) ggX5_firstPlace_X2_withDone
set_option maxRecDepth 20000 in
theorem ggX5_firstPlace_X6_tied : GoodIn wsX5_firstPlace wsX6_tied := goodIn_r _ [39, 40, 41, 38, 42, 43, 44, 45, 46, 47, 48, 49, 50, 51, 52, 53, 54, 55, 56, 57, 58, 59, 60, 61, 62, 63] (by decide +kernel) (by decide +kernel)
set_option maxRecDepth 20000 in
theorem gX5_firstPlace_X6_tied : GoodIn wsX5_firstPlace (va_wsS RX5 85 yX6_tied wsX6_tied) := goodIn_app (goodIn_of _ (by decide +kernel)) ggX5_firstPlace_X6_tied
theorem dX5_firstPlace_0 : decode cX5_firstPlace 0 = .ok (.aload_n 0, 1) := by decide +kernel
theorem dX5_firstPlace_1 : decode cX5_firstPlace 1 = .ok (.aload_n 0, 1) := by decide +kernel
theorem dX5_firstPlace_2 : decode cX5_firstPlace 2 = .ok (.getfield 28, 3) := by decide +kernel
theorem dX5_firstPlace_5 : decode cX5_firstPlace 5 = .ok (.iload_n 1, 1) := by decide +kernel
theorem dX5_firstPlace_6 : decode cX5_firstPlace 6 = .ok (.invokevirtual 69, 3) := by decide +kernel
theorem dX5_firstPlace_9 : decode cX5_firstPlace 9 = .ok (.istore_n 2, 1) := by decide +kernel
theorem dX5_firstPlace_10 : decode cX5_firstPlace 10 = .ok (.aload_n 0, 1) := by decide +kernel
theorem dX5_firstPlace_11 : decode cX5_firstPlace 11 = .ok (.getfield 28, 3) := by decide +kernel
theorem dX5_firstPlace_14 : decode cX5_firstPlace 14 = .ok (.lstore_n 3, 1) := by decide +kernel
theorem dX5_firstPlace_15 : decode cX5_firstPlace 15 = .ok (.aload_n 0, 1) := by decide +kernel
theorem dX5_firstPlace_16 : decode cX5_firstPlace 16 = .ok (.getfield 31, 3) := by decide +kernel
theorem dX5_firstPlace_19 : decode cX5_firstPlace 19 = .ok (.invokestatic 73, 3) := by decide +kernel
theorem dX5_firstPlace_22 : decode cX5_firstPlace 22 = .ok (.istore 5, 2) := by decide +kernel
theorem dX5_firstPlace_24 : decode cX5_firstPlace 24 = .ok (.aload_n 0, 1) := by decide +kernel
theorem dX5_firstPlace_25 : decode cX5_firstPlace 25 = .ok (.getfield 31, 3) := by decide +kernel
theorem dX5_firstPlace_28 : decode cX5_firstPlace 28 = .ok (.invokestatic 73, 3) := by decide +kernel
theorem dX5_firstPlace_31 : decode cX5_firstPlace 31 = .ok (.iconst 1, 1) := by decide +kernel
theorem dX5_firstPlace_32 : decode cX5_firstPlace 32 = .ok (.isub, 1) := by decide +kernel
theorem dX5_firstPlace_33 : decode cX5_firstPlace 33 = .ok (.istore 6, 2) := by decide +kernel
theorem dX5_firstPlace_35 : decode cX5_firstPlace 35 = .ok (.iload 6, 2) := by decide +kernel
theorem dX5_firstPlace_37 : decode cX5_firstPlace 37 = .ok (.ifCond .lt 68, 3) := by decide +kernel
theorem dX5_firstPlace_40 : decode cX5_firstPlace 40 = .ok (.aload_n 0, 1) := by decide +kernel
theorem dX5_firstPlace_41 : decode cX5_firstPlace 41 = .ok (.getfield 31, 3) := by decide +kernel
theorem dX5_firstPlace_44 : decode cX5_firstPlace 44 = .ok (.iload 6, 2) := by decide +kernel
theorem dX5_firstPlace_46 : decode cX5_firstPlace 46 = .ok (.invokestatic 76, 3) := by decide +kernel
theorem dX5_firstPlace_49 : decode cX5_firstPlace 49 = .ok (.istore 7, 2) := by decide +kernel
theorem dX5_firstPlace_51 : decode cX5_firstPlace 51 = .ok (.lload_n 3, 1) := by decide +kernel
theorem dX5_firstPlace_52 : decode cX5_firstPlace 52 = .ok (.iload 7, 2) := by decide +kernel
theorem dX5_firstPlace_54 : decode cX5_firstPlace 54 = .ok (.lload_n 3, 1) := by decide +kernel
theorem dX5_firstPlace_55 : decode cX5_firstPlace 55 = .ok (.iload 7, 2) := by decide +kernel
theorem dX5_firstPlace_57 : decode cX5_firstPlace 57 = .ok (.invokestatic 79, 3) := by decide +kernel
theorem dX5_firstPlace_60 : decode cX5_firstPlace 60 = .ok (.iconst 1, 1) := by decide +kernel
theorem dX5_firstPlace_61 : decode cX5_firstPlace 61 = .ok (.isub, 1) := by decide +kernel
theorem dX5_firstPlace_62 : decode cX5_firstPlace 62 = .ok (.invokestatic 82, 3) := by decide +kernel
theorem dX5_firstPlace_65 : decode cX5_firstPlace 65 = .ok (.lstore_n 3, 1) := by decide +kernel
theorem dX5_firstPlace_66 : decode cX5_firstPlace 66 = .ok (.iload 7, 2) := by decide +kernel
theorem dX5_firstPlace_68 : decode cX5_firstPlace 68 = .ok (.iload_n 1, 1) := by decide +kernel
theorem dX5_firstPlace_69 : decode cX5_firstPlace 69 = .ok (.if_icmp .eq 17, 3) := by decide +kernel
theorem dX5_firstPlace_72 : decode cX5_firstPlace 72 = .ok (.iload_n 2, 1) := by decide +kernel
theorem dX5_firstPlace_73 : decode cX5_firstPlace 73 = .ok (.aload_n 0, 1) := by decide +kernel
theorem dX5_firstPlace_74 : decode cX5_firstPlace 74 = .ok (.lload_n 3, 1) := by decide +kernel
theorem dX5_firstPlace_75 : decode cX5_firstPlace 75 = .ok (.iload 7, 2) := by decide +kernel
theorem dX5_firstPlace_77 : decode cX5_firstPlace 77 = .ok (.invokevirtual 69, 3) := by decide +kernel
theorem dX5_firstPlace_80 : decode cX5_firstPlace 80 = .ok (.invokestatic 85, 3) := by decide +kernel
theorem dX5_firstPlace_83 : decode cX5_firstPlace 83 = .ok (.ifCond .eq 6, 3) := by decide +kernel
theorem dX5_firstPlace_86 : decode cX5_firstPlace 86 = .ok (.iload 5, 2) := by decide +kernel
theorem dX5_firstPlace_88 : decode cX5_firstPlace 88 = .ok (.ireturn, 1) := by decide +kernel
theorem dX5_firstPlace_89 : decode cX5_firstPlace 89 = .ok (.iload 7, 2) := by decide +kernel
theorem dX5_firstPlace_91 : decode cX5_firstPlace 91 = .ok (.iload_n 1, 1) := by decide +kernel
theorem dX5_firstPlace_92 : decode cX5_firstPlace 92 = .ok (.if_icmp .le 7, 3) := by decide +kernel
theorem dX5_firstPlace_95 : decode cX5_firstPlace 95 = .ok (.iload 6, 2) := by decide +kernel
theorem dX5_firstPlace_97 : decode cX5_firstPlace 97 = .ok (.istore 5, 2) := by decide +kernel
theorem dX5_firstPlace_99 : decode cX5_firstPlace 99 = .ok (.iinc 6 (-1), 3) := by decide +kernel
theorem dX5_firstPlace_102 : decode cX5_firstPlace 102 = .ok (.goto (-67), 3) := by decide +kernel
theorem dX5_firstPlace_105 : decode cX5_firstPlace 105 = .ok (.iload 5, 2) := by decide +kernel
theorem dX5_firstPlace_107 : decode cX5_firstPlace 107 = .ok (.ireturn, 1) := by decide +kernel
set_option maxRecDepth 20000 in
theorem ggX5_nextStep_X2_doneOf : GoodIn wsX5_nextStep wsX2_doneOf := goodIn_r _ [4, 5, 6, 3, 7] (by decide +kernel) (by decide +kernel)
set_option maxRecDepth 20000 in
theorem gX5_nextStep_X2_doneOf : GoodIn wsX5_nextStep (va_wsS RX5 79 yX2_doneOf wsX2_doneOf) := goodIn_app (goodIn_of _ (by decide +kernel)) ggX5_nextStep_X2_doneOf
set_option maxRecDepth 20000 in
theorem ggX5_nextStep_X5_stepAt : GoodIn wsX5_nextStep wsX5_stepAt := goodIn_r _ [12, 13, 14, 15, 16, 17, 18, 19] (by decide +kernel) (by decide +kernel)
set_option maxRecDepth 20000 in
theorem gX5_nextStep_X5_stepAt : GoodIn wsX5_nextStep (wsV RX5 35 RX5 yX5_stepAt wsX5_stepAt) := goodIn_app (goodIn_of _ (by decide +kernel)) ggX5_nextStep_X5_stepAt
theorem dX5_nextStep_0 : decode cX5_nextStep 0 = .ok (.aload_n 0, 1) := by decide +kernel
theorem dX5_nextStep_1 : decode cX5_nextStep 1 = .ok (.iload_n 3, 1) := by decide +kernel
theorem dX5_nextStep_2 : decode cX5_nextStep 2 = .ok (.lload_n 1, 1) := by decide +kernel
theorem dX5_nextStep_3 : decode cX5_nextStep 3 = .ok (.iload_n 3, 1) := by decide +kernel
theorem dX5_nextStep_4 : decode cX5_nextStep 4 = .ok (.invokestatic 79, 3) := by decide +kernel
theorem dX5_nextStep_7 : decode cX5_nextStep 7 = .ok (.invokevirtual 35, 3) := by decide +kernel
theorem dX5_nextStep_10 : decode cX5_nextStep 10 = .ok (.ireturn, 1) := by decide +kernel
set_option maxRecDepth 20000 in
theorem ggX5_canDo_X5_nextStep : GoodIn wsX5_canDo wsX5_nextStep := goodIn_r _ [5, 6, 7, 8, 9, 10, 11, 12, 13, 14, 15, 4, 16, 17, 18, 29, 30, 31, 32, 33] (by decide +kernel) (by decide +kernel)
set_option maxRecDepth 20000 in
theorem gX5_canDo_X5_nextStep : GoodIn wsX5_canDo (wsV RX5 69 RX5 yX5_nextStep wsX5_nextStep) := goodIn_app (goodIn_of _ (by decide +kernel)) ggX5_canDo_X5_nextStep
set_option maxRecDepth 20000 in
theorem ggX5_canDo_X6_kind : GoodIn wsX5_canDo wsX6_kind := goodIn_r _ [22] (by decide +kernel) (by decide +kernel)
set_option maxRecDepth 20000 in
theorem gX5_canDo_X6_kind : GoodIn wsX5_canDo (va_wsS RX5 90 yX6_kind wsX6_kind) := goodIn_app (goodIn_of _ (by decide +kernel)) ggX5_canDo_X6_kind
set_option maxRecDepth 20000 in
theorem ggX5_canDo_X6_target : GoodIn wsX5_canDo wsX6_target := goodIn_r _ [25] (by decide +kernel) (by decide +kernel)
set_option maxRecDepth 20000 in
theorem gX5_canDo_X6_target : GoodIn wsX5_canDo (va_wsS RX5 93 yX6_target wsX6_target) := goodIn_app (goodIn_of _ (by decide +kernel)) ggX5_canDo_X6_target
set_option maxRecDepth 20000 in
theorem ggX5_canDo_X2_holderOf : GoodIn wsX5_canDo wsX2_holderOf := goodIn_r _ [28, 10, 11, 8, 12] (by decide +kernel) (by decide +kernel)
set_option maxRecDepth 20000 in
theorem gX5_canDo_X2_holderOf : GoodIn wsX5_canDo (va_wsS RX5 96 yX2_holderOf wsX2_holderOf) := goodIn_app (goodIn_of _ (by decide +kernel)) ggX5_canDo_X2_holderOf
theorem dX5_canDo_0 : decode cX5_canDo 0 = .ok (.aload_n 0, 1) := by decide +kernel
theorem dX5_canDo_1 : decode cX5_canDo 1 = .ok (.lload_n 1, 1) := by decide +kernel
theorem dX5_canDo_2 : decode cX5_canDo 2 = .ok (.iload_n 3, 1) := by decide +kernel
theorem dX5_canDo_3 : decode cX5_canDo 3 = .ok (.invokevirtual 69, 3) := by decide +kernel
theorem dX5_canDo_6 : decode cX5_canDo 6 = .ok (.istore 4, 2) := by decide +kernel
theorem dX5_canDo_8 : decode cX5_canDo 8 = .ok (.iload 4, 2) := by decide +kernel
theorem dX5_canDo_10 : decode cX5_canDo 10 = .ok (.iconst (-1), 1) := by decide +kernel
theorem dX5_canDo_11 : decode cX5_canDo 11 = .ok (.if_icmp .ne 5, 3) := by decide +kernel
theorem dX5_canDo_14 : decode cX5_canDo 14 = .ok (.iconst 0, 1) := by decide +kernel
theorem dX5_canDo_15 : decode cX5_canDo 15 = .ok (.ireturn, 1) := by decide +kernel
theorem dX5_canDo_16 : decode cX5_canDo 16 = .ok (.iload 4, 2) := by decide +kernel
theorem dX5_canDo_18 : decode cX5_canDo 18 = .ok (.invokestatic 90, 3) := by decide +kernel
theorem dX5_canDo_21 : decode cX5_canDo 21 = .ok (.lookupswitch 65 #[(4, 27), (5, 46)], 27) := by decide +kernel
theorem dX5_canDo_48 : decode cX5_canDo 48 = .ok (.lload_n 1, 1) := by decide +kernel
theorem dX5_canDo_49 : decode cX5_canDo 49 = .ok (.iload 4, 2) := by decide +kernel
theorem dX5_canDo_51 : decode cX5_canDo 51 = .ok (.invokestatic 93, 3) := by decide +kernel
theorem dX5_canDo_54 : decode cX5_canDo 54 = .ok (.invokestatic 96, 3) := by decide +kernel
theorem dX5_canDo_57 : decode cX5_canDo 57 = .ok (.iconst (-1), 1) := by decide +kernel
theorem dX5_canDo_58 : decode cX5_canDo 58 = .ok (.if_icmp .ne 7, 3) := by decide +kernel
theorem dX5_canDo_61 : decode cX5_canDo 61 = .ok (.iconst 1, 1) := by decide +kernel
theorem dX5_canDo_62 : decode cX5_canDo 62 = .ok (.goto 4, 3) := by decide +kernel
theorem dX5_canDo_65 : decode cX5_canDo 65 = .ok (.iconst 0, 1) := by decide +kernel
theorem dX5_canDo_66 : decode cX5_canDo 66 = .ok (.ireturn, 1) := by decide +kernel
theorem dX5_canDo_67 : decode cX5_canDo 67 = .ok (.lload_n 1, 1) := by decide +kernel
theorem dX5_canDo_68 : decode cX5_canDo 68 = .ok (.iload 4, 2) := by decide +kernel
theorem dX5_canDo_70 : decode cX5_canDo 70 = .ok (.invokestatic 93, 3) := by decide +kernel
theorem dX5_canDo_73 : decode cX5_canDo 73 = .ok (.invokestatic 96, 3) := by decide +kernel
theorem dX5_canDo_76 : decode cX5_canDo 76 = .ok (.iload_n 3, 1) := by decide +kernel
theorem dX5_canDo_77 : decode cX5_canDo 77 = .ok (.if_icmp .ne 7, 3) := by decide +kernel
theorem dX5_canDo_80 : decode cX5_canDo 80 = .ok (.iconst 1, 1) := by decide +kernel
theorem dX5_canDo_81 : decode cX5_canDo 81 = .ok (.goto 4, 3) := by decide +kernel
theorem dX5_canDo_84 : decode cX5_canDo 84 = .ok (.iconst 0, 1) := by decide +kernel
theorem dX5_canDo_85 : decode cX5_canDo 85 = .ok (.ireturn, 1) := by decide +kernel
theorem dX5_canDo_86 : decode cX5_canDo 86 = .ok (.iconst 1, 1) := by decide +kernel
theorem dX5_canDo_87 : decode cX5_canDo 87 = .ok (.ireturn, 1) := by decide +kernel
set_option maxRecDepth 20000 in
theorem ggX5_ableBits_X5_canDo : GoodIn wsX5_ableBits wsX5_canDo := goodIn_r _ [5, 6, 7, 8, 4, 9, 10, 11, 12, 13, 14, 15, 16, 17, 18, 19, 20, 21, 22, 23, 24, 25, 26, 27, 28, 29, 30, 31, 32, 33, 34, 35, 36, 37] (by decide +kernel) (by decide +kernel)
set_option maxRecDepth 20000 in
theorem gX5_ableBits_X5_canDo : GoodIn wsX5_ableBits (wsV RX5 99 RX5 yX5_canDo wsX5_canDo) := goodIn_app (goodIn_of _ (by decide +kernel)) ggX5_ableBits_X5_canDo
theorem dX5_ableBits_0 : decode cX5_ableBits 0 = .ok (.iconst 0, 1) := by decide +kernel
theorem dX5_ableBits_1 : decode cX5_ableBits 1 = .ok (.istore_n 3, 1) := by decide +kernel
theorem dX5_ableBits_2 : decode cX5_ableBits 2 = .ok (.iconst 0, 1) := by decide +kernel
theorem dX5_ableBits_3 : decode cX5_ableBits 3 = .ok (.istore 4, 2) := by decide +kernel
theorem dX5_ableBits_5 : decode cX5_ableBits 5 = .ok (.iload 4, 2) := by decide +kernel
theorem dX5_ableBits_7 : decode cX5_ableBits 7 = .ok (.iconst 3, 1) := by decide +kernel
theorem dX5_ableBits_8 : decode cX5_ableBits 8 = .ok (.if_icmp .ge 26, 3) := by decide +kernel
theorem dX5_ableBits_11 : decode cX5_ableBits 11 = .ok (.aload_n 0, 1) := by decide +kernel
theorem dX5_ableBits_12 : decode cX5_ableBits 12 = .ok (.lload_n 1, 1) := by decide +kernel
theorem dX5_ableBits_13 : decode cX5_ableBits 13 = .ok (.iload 4, 2) := by decide +kernel
theorem dX5_ableBits_15 : decode cX5_ableBits 15 = .ok (.invokevirtual 99, 3) := by decide +kernel
theorem dX5_ableBits_18 : decode cX5_ableBits 18 = .ok (.ifCond .eq 10, 3) := by decide +kernel
theorem dX5_ableBits_21 : decode cX5_ableBits 21 = .ok (.iload_n 3, 1) := by decide +kernel
theorem dX5_ableBits_22 : decode cX5_ableBits 22 = .ok (.iconst 1, 1) := by decide +kernel
theorem dX5_ableBits_23 : decode cX5_ableBits 23 = .ok (.iload 4, 2) := by decide +kernel
theorem dX5_ableBits_25 : decode cX5_ableBits 25 = .ok (.ishl, 1) := by decide +kernel
theorem dX5_ableBits_26 : decode cX5_ableBits 26 = .ok (.ior, 1) := by decide +kernel
theorem dX5_ableBits_27 : decode cX5_ableBits 27 = .ok (.istore_n 3, 1) := by decide +kernel
theorem dX5_ableBits_28 : decode cX5_ableBits 28 = .ok (.iinc 4 1, 3) := by decide +kernel
theorem dX5_ableBits_31 : decode cX5_ableBits 31 = .ok (.goto (-26), 3) := by decide +kernel
theorem dX5_ableBits_34 : decode cX5_ableBits 34 = .ok (.iload_n 3, 1) := by decide +kernel
theorem dX5_ableBits_35 : decode cX5_ableBits 35 = .ok (.ireturn, 1) := by decide +kernel
set_option maxRecDepth 20000 in
theorem ggX5_stepDone_X5_nextStep : GoodIn wsX5_stepDone wsX5_nextStep := goodIn_r _ [5, 6, 7, 8, 9, 10, 11, 12, 13, 14, 15, 4, 16, 17, 18, 52, 53, 54, 55, 56] (by decide +kernel) (by decide +kernel)
set_option maxRecDepth 20000 in
theorem gX5_stepDone_X5_nextStep : GoodIn wsX5_stepDone (wsV RX5 69 RX5 yX5_nextStep wsX5_nextStep) := goodIn_app (goodIn_of _ (by decide +kernel)) ggX5_stepDone_X5_nextStep
set_option maxRecDepth 20000 in
theorem ggX5_stepDone_X2_doneOf : GoodIn wsX5_stepDone wsX2_doneOf := goodIn_r _ [9, 10, 11, 8, 12] (by decide +kernel) (by decide +kernel)
set_option maxRecDepth 20000 in
theorem gX5_stepDone_X2_doneOf : GoodIn wsX5_stepDone (va_wsS RX5 79 yX2_doneOf wsX2_doneOf) := goodIn_app (goodIn_of _ (by decide +kernel)) ggX5_stepDone_X2_doneOf
set_option maxRecDepth 20000 in
theorem ggX5_stepDone_X2_withDone : GoodIn wsX5_stepDone wsX2_withDone := goodIn_r _ [21, 22, 23, 8, 24, 25, 26] (by decide +kernel) (by decide +kernel)
set_option maxRecDepth 20000 in
theorem gX5_stepDone_X2_withDone : GoodIn wsX5_stepDone (va_wsS RX5 82 yX2_withDone wsX2_withDone) := goodIn_app (goodIn_of _ (by decide +kernel)) ggX5_stepDone_X2_withDone
set_option maxRecDepth 20000 in
theorem ggX5_stepDone_X6_target : GoodIn wsX5_stepDone wsX6_target := goodIn_r _ [30] (by decide +kernel) (by decide +kernel)
set_option maxRecDepth 20000 in
theorem gX5_stepDone_X6_target : GoodIn wsX5_stepDone (va_wsS RX5 93 yX6_target wsX6_target) := goodIn_app (goodIn_of _ (by decide +kernel)) ggX5_stepDone_X6_target
set_option maxRecDepth 20000 in
theorem ggX5_stepDone_X6_value : GoodIn wsX5_stepDone wsX6_value := goodIn_r _ [33] (by decide +kernel) (by decide +kernel)
set_option maxRecDepth 20000 in
theorem gX5_stepDone_X6_value : GoodIn wsX5_stepDone (va_wsS RX5 103 yX6_value wsX6_value) := goodIn_app (goodIn_of _ (by decide +kernel)) ggX5_stepDone_X6_value
set_option maxRecDepth 20000 in
theorem ggX5_stepDone_X2_valueOf : GoodIn wsX5_stepDone wsX2_valueOf := goodIn_r _ [36, 10, 11, 8, 12] (by decide +kernel) (by decide +kernel)
set_option maxRecDepth 20000 in
theorem gX5_stepDone_X2_valueOf : GoodIn wsX5_stepDone (va_wsS RX5 106 yX2_valueOf wsX2_valueOf) := goodIn_app (goodIn_of _ (by decide +kernel)) ggX5_stepDone_X2_valueOf
set_option maxRecDepth 20000 in
theorem ggX5_stepDone_X6_kind : GoodIn wsX5_stepDone wsX6_kind := goodIn_r _ [39] (by decide +kernel) (by decide +kernel)
set_option maxRecDepth 20000 in
theorem gX5_stepDone_X6_kind : GoodIn wsX5_stepDone (va_wsS RX5 90 yX6_kind wsX6_kind) := goodIn_app (goodIn_of _ (by decide +kernel)) ggX5_stepDone_X6_kind
set_option maxRecDepth 20000 in
theorem ggX5_stepDone_X2_withValue : GoodIn wsX5_stepDone wsX2_withValue := goodIn_r _ [42, 22, 23, 8, 24, 25, 26] (by decide +kernel) (by decide +kernel)
set_option maxRecDepth 20000 in
theorem gX5_stepDone_X2_withValue : GoodIn wsX5_stepDone (va_wsS RX5 50 yX2_withValue wsX2_withValue) := goodIn_app (goodIn_of _ (by decide +kernel)) ggX5_stepDone_X2_withValue
set_option maxRecDepth 20000 in
theorem ggX5_stepDone_X2_withOneWrongMore : GoodIn wsX5_stepDone wsX2_withOneWrongMore := goodIn_r _ [45, 46, 47, 8, 48, 10, 11, 12, 22, 23, 24, 25, 26] (by decide +kernel) (by decide +kernel)
set_option maxRecDepth 20000 in
theorem gX5_stepDone_X2_withOneWrongMore : GoodIn wsX5_stepDone (va_wsS RX5 109 yX2_withOneWrongMore wsX2_withOneWrongMore) := goodIn_app (goodIn_of _ (by decide +kernel)) ggX5_stepDone_X2_withOneWrongMore
set_option maxRecDepth 20000 in
theorem ggX5_stepDone_X2_withHolder : GoodIn wsX5_stepDone wsX2_withHolder := goodIn_r _ [51, 22, 23, 8, 24, 25, 26] (by decide +kernel) (by decide +kernel)
set_option maxRecDepth 20000 in
theorem gX5_stepDone_X2_withHolder : GoodIn wsX5_stepDone (va_wsS RX5 113 yX2_withHolder wsX2_withHolder) := goodIn_app (goodIn_of _ (by decide +kernel)) ggX5_stepDone_X2_withHolder
theorem dX5_stepDone_0 : decode cX5_stepDone 0 = .ok (.aload_n 0, 1) := by decide +kernel
theorem dX5_stepDone_1 : decode cX5_stepDone 1 = .ok (.lload_n 1, 1) := by decide +kernel
theorem dX5_stepDone_2 : decode cX5_stepDone 2 = .ok (.iload_n 3, 1) := by decide +kernel
theorem dX5_stepDone_3 : decode cX5_stepDone 3 = .ok (.invokevirtual 69, 3) := by decide +kernel
theorem dX5_stepDone_6 : decode cX5_stepDone 6 = .ok (.istore 4, 2) := by decide +kernel
theorem dX5_stepDone_8 : decode cX5_stepDone 8 = .ok (.iload 4, 2) := by decide +kernel
theorem dX5_stepDone_10 : decode cX5_stepDone 10 = .ok (.iconst (-1), 1) := by decide +kernel
theorem dX5_stepDone_11 : decode cX5_stepDone 11 = .ok (.if_icmp .ne 5, 3) := by decide +kernel
theorem dX5_stepDone_14 : decode cX5_stepDone 14 = .ok (.lload_n 1, 1) := by decide +kernel
theorem dX5_stepDone_15 : decode cX5_stepDone 15 = .ok (.lreturn, 1) := by decide +kernel
theorem dX5_stepDone_16 : decode cX5_stepDone 16 = .ok (.lload_n 1, 1) := by decide +kernel
theorem dX5_stepDone_17 : decode cX5_stepDone 17 = .ok (.iload_n 3, 1) := by decide +kernel
theorem dX5_stepDone_18 : decode cX5_stepDone 18 = .ok (.lload_n 1, 1) := by decide +kernel
theorem dX5_stepDone_19 : decode cX5_stepDone 19 = .ok (.iload_n 3, 1) := by decide +kernel
theorem dX5_stepDone_20 : decode cX5_stepDone 20 = .ok (.invokestatic 79, 3) := by decide +kernel
theorem dX5_stepDone_23 : decode cX5_stepDone 23 = .ok (.iconst 1, 1) := by decide +kernel
theorem dX5_stepDone_24 : decode cX5_stepDone 24 = .ok (.iadd, 1) := by decide +kernel
theorem dX5_stepDone_25 : decode cX5_stepDone 25 = .ok (.invokestatic 82, 3) := by decide +kernel
theorem dX5_stepDone_28 : decode cX5_stepDone 28 = .ok (.lstore 5, 2) := by decide +kernel
theorem dX5_stepDone_30 : decode cX5_stepDone 30 = .ok (.iload 4, 2) := by decide +kernel
theorem dX5_stepDone_32 : decode cX5_stepDone 32 = .ok (.invokestatic 93, 3) := by decide +kernel
theorem dX5_stepDone_35 : decode cX5_stepDone 35 = .ok (.istore 7, 2) := by decide +kernel
theorem dX5_stepDone_37 : decode cX5_stepDone 37 = .ok (.iload 4, 2) := by decide +kernel
theorem dX5_stepDone_39 : decode cX5_stepDone 39 = .ok (.invokestatic 103, 3) := by decide +kernel
theorem dX5_stepDone_42 : decode cX5_stepDone 42 = .ok (.istore 8, 2) := by decide +kernel
theorem dX5_stepDone_44 : decode cX5_stepDone 44 = .ok (.lload_n 1, 1) := by decide +kernel
theorem dX5_stepDone_45 : decode cX5_stepDone 45 = .ok (.iload 7, 2) := by decide +kernel
theorem dX5_stepDone_47 : decode cX5_stepDone 47 = .ok (.invokestatic 106, 3) := by decide +kernel
theorem dX5_stepDone_50 : decode cX5_stepDone 50 = .ok (.istore 9, 2) := by decide +kernel
theorem dX5_stepDone_52 : decode cX5_stepDone 52 = .ok (.iload 4, 2) := by decide +kernel
theorem dX5_stepDone_54 : decode cX5_stepDone 54 = .ok (.invokestatic 90, 3) := by decide +kernel
theorem dX5_stepDone_57 : decode cX5_stepDone 57 = .ok (.tableswitch 102 0 4 #[35, 45, 61, 75, 93], 35) := by decide +kernel
theorem dX5_stepDone_92 : decode cX5_stepDone 92 = .ok (.lload 5, 2) := by decide +kernel
theorem dX5_stepDone_94 : decode cX5_stepDone 94 = .ok (.iload 7, 2) := by decide +kernel
theorem dX5_stepDone_96 : decode cX5_stepDone 96 = .ok (.iload 8, 2) := by decide +kernel
theorem dX5_stepDone_98 : decode cX5_stepDone 98 = .ok (.invokestatic 50, 3) := by decide +kernel
theorem dX5_stepDone_101 : decode cX5_stepDone 101 = .ok (.lreturn, 1) := by decide +kernel
theorem dX5_stepDone_102 : decode cX5_stepDone 102 = .ok (.lload 5, 2) := by decide +kernel
theorem dX5_stepDone_104 : decode cX5_stepDone 104 = .ok (.iload 7, 2) := by decide +kernel
theorem dX5_stepDone_106 : decode cX5_stepDone 106 = .ok (.iload 9, 2) := by decide +kernel
theorem dX5_stepDone_108 : decode cX5_stepDone 108 = .ok (.iload 8, 2) := by decide +kernel
theorem dX5_stepDone_110 : decode cX5_stepDone 110 = .ok (.iadd, 1) := by decide +kernel
theorem dX5_stepDone_111 : decode cX5_stepDone 111 = .ok (.bipush 10, 2) := by decide +kernel
theorem dX5_stepDone_113 : decode cX5_stepDone 113 = .ok (.irem, 1) := by decide +kernel
theorem dX5_stepDone_114 : decode cX5_stepDone 114 = .ok (.invokestatic 50, 3) := by decide +kernel
theorem dX5_stepDone_117 : decode cX5_stepDone 117 = .ok (.lreturn, 1) := by decide +kernel
theorem dX5_stepDone_118 : decode cX5_stepDone 118 = .ok (.lload 5, 2) := by decide +kernel
theorem dX5_stepDone_120 : decode cX5_stepDone 120 = .ok (.iload 7, 2) := by decide +kernel
theorem dX5_stepDone_122 : decode cX5_stepDone 122 = .ok (.lload_n 1, 1) := by decide +kernel
theorem dX5_stepDone_123 : decode cX5_stepDone 123 = .ok (.iload 8, 2) := by decide +kernel
theorem dX5_stepDone_125 : decode cX5_stepDone 125 = .ok (.invokestatic 106, 3) := by decide +kernel
theorem dX5_stepDone_128 : decode cX5_stepDone 128 = .ok (.invokestatic 50, 3) := by decide +kernel
theorem dX5_stepDone_131 : decode cX5_stepDone 131 = .ok (.lreturn, 1) := by decide +kernel
theorem dX5_stepDone_132 : decode cX5_stepDone 132 = .ok (.iload 9, 2) := by decide +kernel
theorem dX5_stepDone_134 : decode cX5_stepDone 134 = .ok (.iload 8, 2) := by decide +kernel
theorem dX5_stepDone_136 : decode cX5_stepDone 136 = .ok (.if_icmp .ne 8, 3) := by decide +kernel
theorem dX5_stepDone_139 : decode cX5_stepDone 139 = .ok (.lload 5, 2) := by decide +kernel
theorem dX5_stepDone_141 : decode cX5_stepDone 141 = .ok (.goto 8, 3) := by decide +kernel
theorem dX5_stepDone_144 : decode cX5_stepDone 144 = .ok (.lload 5, 2) := by decide +kernel
theorem dX5_stepDone_146 : decode cX5_stepDone 146 = .ok (.invokestatic 109, 3) := by decide +kernel
theorem dX5_stepDone_149 : decode cX5_stepDone 149 = .ok (.lreturn, 1) := by decide +kernel
theorem dX5_stepDone_150 : decode cX5_stepDone 150 = .ok (.lload 5, 2) := by decide +kernel
theorem dX5_stepDone_152 : decode cX5_stepDone 152 = .ok (.iload 7, 2) := by decide +kernel
theorem dX5_stepDone_154 : decode cX5_stepDone 154 = .ok (.iload_n 3, 1) := by decide +kernel
theorem dX5_stepDone_155 : decode cX5_stepDone 155 = .ok (.invokestatic 113, 3) := by decide +kernel
theorem dX5_stepDone_158 : decode cX5_stepDone 158 = .ok (.lreturn, 1) := by decide +kernel
theorem dX5_stepDone_159 : decode cX5_stepDone 159 = .ok (.lload 5, 2) := by decide +kernel
theorem dX5_stepDone_161 : decode cX5_stepDone 161 = .ok (.iload 7, 2) := by decide +kernel
theorem dX5_stepDone_163 : decode cX5_stepDone 163 = .ok (.iconst (-1), 1) := by decide +kernel
theorem dX5_stepDone_164 : decode cX5_stepDone 164 = .ok (.invokestatic 113, 3) := by decide +kernel
theorem dX5_stepDone_167 : decode cX5_stepDone 167 = .ok (.lreturn, 1) := by decide +kernel
set_option maxRecDepth 20000 in
theorem ggX5_momentBehind_X4_length : GoodIn wsX5_momentBehind wsX4_length := goodIn_r _ [5] (by decide +kernel) (by decide +kernel)
set_option maxRecDepth 20000 in
theorem gX5_momentBehind_X4_length : GoodIn wsX5_momentBehind (va_wsS RX5 73 yX4_length wsX4_length) := goodIn_app (goodIn_of _ (by decide +kernel)) ggX5_momentBehind_X4_length
set_option maxRecDepth 20000 in
theorem ggX5_momentBehind_X4_threadAt : GoodIn wsX5_momentBehind wsX4_threadAt := goodIn_r _ [8] (by decide +kernel) (by decide +kernel)
set_option maxRecDepth 20000 in
theorem gX5_momentBehind_X4_threadAt : GoodIn wsX5_momentBehind (va_wsS RX5 76 yX4_threadAt wsX4_threadAt) := goodIn_app (goodIn_of _ (by decide +kernel)) ggX5_momentBehind_X4_threadAt
set_option maxRecDepth 20000 in
theorem ggX5_momentBehind_X5_stepDone : GoodIn wsX5_momentBehind wsX5_stepDone := goodIn_r _ [13, 14, 15, 16, 12, 17, 18, 19, 20, 21, 22, 23, 24, 25, 26, 27, 28, 29, 30, 31, 32, 33, 34, 35, 36, 37, 38, 39, 40, 41, 42, 43, 44, 45, 46, 47, 48, 49, 50, 51, 52, 53, 54, 55, 56, 57, 58, 59, 60, 61, 62, 63, 64, 65, 66, 67, 68] (by decide +kernel) (by decide +kernel)
set_option maxRecDepth 20000 in
theorem gX5_momentBehind_X5_stepDone : GoodIn wsX5_momentBehind (wsV RX5 65 RX5 yX5_stepDone wsX5_stepDone) := goodIn_app (goodIn_of _ (by decide +kernel)) ggX5_momentBehind_X5_stepDone
theorem dX5_momentBehind_0 : decode cX5_momentBehind 0 = .ok (.aload_n 0, 1) := by decide +kernel
theorem dX5_momentBehind_1 : decode cX5_momentBehind 1 = .ok (.getfield 24, 3) := by decide +kernel
theorem dX5_momentBehind_4 : decode cX5_momentBehind 4 = .ok (.lstore_n 2, 1) := by decide +kernel
theorem dX5_momentBehind_5 : decode cX5_momentBehind 5 = .ok (.iconst 0, 1) := by decide +kernel
theorem dX5_momentBehind_6 : decode cX5_momentBehind 6 = .ok (.istore 4, 2) := by decide +kernel
theorem dX5_momentBehind_8 : decode cX5_momentBehind 8 = .ok (.iload 4, 2) := by decide +kernel
theorem dX5_momentBehind_10 : decode cX5_momentBehind 10 = .ok (.iload_n 1, 1) := by decide +kernel
theorem dX5_momentBehind_11 : decode cX5_momentBehind 11 = .ok (.invokestatic 73, 3) := by decide +kernel
theorem dX5_momentBehind_14 : decode cX5_momentBehind 14 = .ok (.if_icmp .ge 21, 3) := by decide +kernel
theorem dX5_momentBehind_17 : decode cX5_momentBehind 17 = .ok (.aload_n 0, 1) := by decide +kernel
theorem dX5_momentBehind_18 : decode cX5_momentBehind 18 = .ok (.lload_n 2, 1) := by decide +kernel
theorem dX5_momentBehind_19 : decode cX5_momentBehind 19 = .ok (.iload_n 1, 1) := by decide +kernel
theorem dX5_momentBehind_20 : decode cX5_momentBehind 20 = .ok (.iload 4, 2) := by decide +kernel
theorem dX5_momentBehind_22 : decode cX5_momentBehind 22 = .ok (.invokestatic 76, 3) := by decide +kernel
theorem dX5_momentBehind_25 : decode cX5_momentBehind 25 = .ok (.invokevirtual 65, 3) := by decide +kernel
theorem dX5_momentBehind_28 : decode cX5_momentBehind 28 = .ok (.lstore_n 2, 1) := by decide +kernel
theorem dX5_momentBehind_29 : decode cX5_momentBehind 29 = .ok (.iinc 4 1, 3) := by decide +kernel
theorem dX5_momentBehind_32 : decode cX5_momentBehind 32 = .ok (.goto (-24), 3) := by decide +kernel
theorem dX5_momentBehind_35 : decode cX5_momentBehind 35 = .ok (.lload_n 2, 1) := by decide +kernel
theorem dX5_momentBehind_36 : decode cX5_momentBehind 36 = .ok (.lreturn, 1) := by decide +kernel
set_option maxRecDepth 20000 in
theorem ggX6_isOne_X8_below : GoodIn wsX6_isOne wsX8_below := goodIn_r _ [3] (by decide +kernel) (by decide +kernel)
set_option maxRecDepth 20000 in
theorem gX6_isOne_X8_below_n9 : GoodIn wsX6_isOne (wsX8_below) := ggX6_isOne_X8_below
set_option maxRecDepth 20000 in
theorem ggX6_isOne_X6_isLocking : GoodIn wsX6_isOne wsX6_isLocking := goodIn_r _ [7] (by decide +kernel) (by decide +kernel)
set_option maxRecDepth 20000 in
theorem gX6_isOne_X6_isLocking : GoodIn wsX6_isOne (va_wsS RX6 13 yX6_isLocking wsX6_isLocking) := goodIn_app (goodIn_of _ (by decide +kernel)) ggX6_isOne_X6_isLocking
theorem dX6_isOne_0 : decode cX6_isOne 0 = .ok (.iload_n 0, 1) := by decide +kernel
theorem dX6_isOne_1 : decode cX6_isOne 1 = .ok (.bipush 6, 2) := by decide +kernel
theorem dX6_isOne_3 : decode cX6_isOne 3 = .ok (.invokestatic 9, 3) := by decide +kernel
theorem dX6_isOne_6 : decode cX6_isOne 6 = .ok (.ifCond .ne 5, 3) := by decide +kernel
theorem dX6_isOne_9 : decode cX6_isOne 9 = .ok (.iconst 0, 1) := by decide +kernel
theorem dX6_isOne_10 : decode cX6_isOne 10 = .ok (.ireturn, 1) := by decide +kernel
theorem dX6_isOne_11 : decode cX6_isOne 11 = .ok (.iload_n 0, 1) := by decide +kernel
theorem dX6_isOne_12 : decode cX6_isOne 12 = .ok (.invokestatic 13, 3) := by decide +kernel
theorem dX6_isOne_15 : decode cX6_isOne 15 = .ok (.ifCond .eq 21, 3) := by decide +kernel
theorem dX6_isOne_18 : decode cX6_isOne 18 = .ok (.iload_n 1, 1) := by decide +kernel
theorem dX6_isOne_19 : decode cX6_isOne 19 = .ok (.iconst 2, 1) := by decide +kernel
theorem dX6_isOne_20 : decode cX6_isOne 20 = .ok (.invokestatic 9, 3) := by decide +kernel
theorem dX6_isOne_23 : decode cX6_isOne 23 = .ok (.ifCond .eq 11, 3) := by decide +kernel
theorem dX6_isOne_26 : decode cX6_isOne 26 = .ok (.iload_n 2, 1) := by decide +kernel
theorem dX6_isOne_27 : decode cX6_isOne 27 = .ok (.ifCond .ne 7, 3) := by decide +kernel
theorem dX6_isOne_30 : decode cX6_isOne 30 = .ok (.iconst 1, 1) := by decide +kernel
theorem dX6_isOne_31 : decode cX6_isOne 31 = .ok (.goto 4, 3) := by decide +kernel
theorem dX6_isOne_34 : decode cX6_isOne 34 = .ok (.iconst 0, 1) := by decide +kernel
theorem dX6_isOne_35 : decode cX6_isOne 35 = .ok (.ireturn, 1) := by decide +kernel
theorem dX6_isOne_36 : decode cX6_isOne 36 = .ok (.iload_n 1, 1) := by decide +kernel
theorem dX6_isOne_37 : decode cX6_isOne 37 = .ok (.iconst 4, 1) := by decide +kernel
theorem dX6_isOne_38 : decode cX6_isOne 38 = .ok (.invokestatic 9, 3) := by decide +kernel
theorem dX6_isOne_41 : decode cX6_isOne 41 = .ok (.ifCond .eq 25, 3) := by decide +kernel
theorem dX6_isOne_44 : decode cX6_isOne 44 = .ok (.iload_n 2, 1) := by decide +kernel
theorem dX6_isOne_45 : decode cX6_isOne 45 = .ok (.iload_n 0, 1) := by decide +kernel
theorem dX6_isOne_46 : decode cX6_isOne 46 = .ok (.iconst 2, 1) := by decide +kernel
theorem dX6_isOne_47 : decode cX6_isOne 47 = .ok (.if_icmp .ne 7, 3) := by decide +kernel
theorem dX6_isOne_50 : decode cX6_isOne 50 = .ok (.iconst 4, 1) := by decide +kernel
theorem dX6_isOne_51 : decode cX6_isOne 51 = .ok (.goto 5, 3) := by decide +kernel
theorem dX6_isOne_54 : decode cX6_isOne 54 = .ok (.bipush 10, 2) := by decide +kernel
theorem dX6_isOne_56 : decode cX6_isOne 56 = .ok (.invokestatic 9, 3) := by decide +kernel
theorem dX6_isOne_59 : decode cX6_isOne 59 = .ok (.ifCond .eq 7, 3) := by decide +kernel
theorem dX6_isOne_62 : decode cX6_isOne 62 = .ok (.iconst 1, 1) := by decide +kernel
theorem dX6_isOne_63 : decode cX6_isOne 63 = .ok (.goto 4, 3) := by decide +kernel
theorem dX6_isOne_66 : decode cX6_isOne 66 = .ok (.iconst 0, 1) := by decide +kernel
theorem dX6_isOne_67 : decode cX6_isOne 67 = .ok (.ireturn, 1) := by decide +kernel
theorem dX6_isLocking_0 : decode cX6_isLocking 0 = .ok (.iload_n 0, 1) := by decide +kernel
theorem dX6_isLocking_1 : decode cX6_isLocking 1 = .ok (.iconst 4, 1) := by decide +kernel
theorem dX6_isLocking_2 : decode cX6_isLocking 2 = .ok (.if_icmp .eq 8, 3) := by decide +kernel
theorem dX6_isLocking_5 : decode cX6_isLocking 5 = .ok (.iload_n 0, 1) := by decide +kernel
theorem dX6_isLocking_6 : decode cX6_isLocking 6 = .ok (.iconst 5, 1) := by decide +kernel
theorem dX6_isLocking_7 : decode cX6_isLocking 7 = .ok (.if_icmp .ne 7, 3) := by decide +kernel
theorem dX6_isLocking_10 : decode cX6_isLocking 10 = .ok (.iconst 1, 1) := by decide +kernel
theorem dX6_isLocking_11 : decode cX6_isLocking 11 = .ok (.goto 4, 3) := by decide +kernel
theorem dX6_isLocking_14 : decode cX6_isLocking 14 = .ok (.iconst 0, 1) := by decide +kernel
theorem dX6_isLocking_15 : decode cX6_isLocking 15 = .ok (.ireturn, 1) := by decide +kernel
theorem dX6_packed_0 : decode cX6_packed 0 = .ok (.iload_n 0, 1) := by decide +kernel
theorem dX6_packed_1 : decode cX6_packed 1 = .ok (.iload_n 1, 1) := by decide +kernel
theorem dX6_packed_2 : decode cX6_packed 2 = .ok (.iconst 3, 1) := by decide +kernel
theorem dX6_packed_3 : decode cX6_packed 3 = .ok (.ishl, 1) := by decide +kernel
theorem dX6_packed_4 : decode cX6_packed 4 = .ok (.ior, 1) := by decide +kernel
theorem dX6_packed_5 : decode cX6_packed 5 = .ok (.iload_n 2, 1) := by decide +kernel
theorem dX6_packed_6 : decode cX6_packed 6 = .ok (.iconst 5, 1) := by decide +kernel
theorem dX6_packed_7 : decode cX6_packed 7 = .ok (.ishl, 1) := by decide +kernel
theorem dX6_packed_8 : decode cX6_packed 8 = .ok (.ior, 1) := by decide +kernel
theorem dX6_packed_9 : decode cX6_packed 9 = .ok (.ireturn, 1) := by decide +kernel
theorem dX6_kind_0 : decode cX6_kind 0 = .ok (.iload_n 0, 1) := by decide +kernel
theorem dX6_kind_1 : decode cX6_kind 1 = .ok (.bipush 7, 2) := by decide +kernel
theorem dX6_kind_3 : decode cX6_kind 3 = .ok (.iand, 1) := by decide +kernel
theorem dX6_kind_4 : decode cX6_kind 4 = .ok (.ireturn, 1) := by decide +kernel
theorem dX6_target_0 : decode cX6_target 0 = .ok (.iload_n 0, 1) := by decide +kernel
theorem dX6_target_1 : decode cX6_target 1 = .ok (.iconst 3, 1) := by decide +kernel
theorem dX6_target_2 : decode cX6_target 2 = .ok (.ishr, 1) := by decide +kernel
theorem dX6_target_3 : decode cX6_target 3 = .ok (.iconst 3, 1) := by decide +kernel
theorem dX6_target_4 : decode cX6_target 4 = .ok (.iand, 1) := by decide +kernel
theorem dX6_target_5 : decode cX6_target 5 = .ok (.ireturn, 1) := by decide +kernel
theorem dX6_value_0 : decode cX6_value 0 = .ok (.iload_n 0, 1) := by decide +kernel
theorem dX6_value_1 : decode cX6_value 1 = .ok (.iconst 5, 1) := by decide +kernel
theorem dX6_value_2 : decode cX6_value 2 = .ok (.ishr, 1) := by decide +kernel
theorem dX6_value_3 : decode cX6_value 3 = .ok (.bipush 15, 2) := by decide +kernel
theorem dX6_value_5 : decode cX6_value 5 = .ok (.iand, 1) := by decide +kernel
theorem dX6_value_6 : decode cX6_value 6 = .ok (.ireturn, 1) := by decide +kernel
set_option maxRecDepth 20000 in
theorem ggX6_readBits_X6_kind : GoodIn wsX6_readBits wsX6_kind := goodIn_r _ [4] (by decide +kernel) (by decide +kernel)
set_option maxRecDepth 20000 in
theorem gX6_readBits_X6_kind : GoodIn wsX6_readBits (va_wsS RX6 19 yX6_kind wsX6_kind) := goodIn_app (goodIn_of _ (by decide +kernel)) ggX6_readBits_X6_kind
set_option maxRecDepth 20000 in
theorem ggX6_readBits_X6_target : GoodIn wsX6_readBits wsX6_target := goodIn_r _ [7] (by decide +kernel) (by decide +kernel)
set_option maxRecDepth 20000 in
theorem gX6_readBits_X6_target : GoodIn wsX6_readBits (va_wsS RX6 23 yX6_target wsX6_target) := goodIn_app (goodIn_of _ (by decide +kernel)) ggX6_readBits_X6_target
set_option maxRecDepth 20000 in
theorem ggX6_readBits_X6_value : GoodIn wsX6_readBits wsX6_value := goodIn_r _ [10] (by decide +kernel) (by decide +kernel)
set_option maxRecDepth 20000 in
theorem gX6_readBits_X6_value : GoodIn wsX6_readBits (va_wsS RX6 26 yX6_value wsX6_value) := goodIn_app (goodIn_of _ (by decide +kernel)) ggX6_readBits_X6_value
theorem dX6_readBits_0 : decode cX6_readBits 0 = .ok (.iload_n 0, 1) := by decide +kernel
theorem dX6_readBits_1 : decode cX6_readBits 1 = .ok (.invokestatic 19, 3) := by decide +kernel
theorem dX6_readBits_4 : decode cX6_readBits 4 = .ok (.tableswitch 42 1 3 #[28, 35, 28], 28) := by decide +kernel
theorem dX6_readBits_32 : decode cX6_readBits 32 = .ok (.iconst 1, 1) := by decide +kernel
theorem dX6_readBits_33 : decode cX6_readBits 33 = .ok (.iload_n 0, 1) := by decide +kernel
theorem dX6_readBits_34 : decode cX6_readBits 34 = .ok (.invokestatic 23, 3) := by decide +kernel
theorem dX6_readBits_37 : decode cX6_readBits 37 = .ok (.ishl, 1) := by decide +kernel
theorem dX6_readBits_38 : decode cX6_readBits 38 = .ok (.ireturn, 1) := by decide +kernel
theorem dX6_readBits_39 : decode cX6_readBits 39 = .ok (.iconst 1, 1) := by decide +kernel
theorem dX6_readBits_40 : decode cX6_readBits 40 = .ok (.iload_n 0, 1) := by decide +kernel
theorem dX6_readBits_41 : decode cX6_readBits 41 = .ok (.invokestatic 26, 3) := by decide +kernel
theorem dX6_readBits_44 : decode cX6_readBits 44 = .ok (.ishl, 1) := by decide +kernel
theorem dX6_readBits_45 : decode cX6_readBits 45 = .ok (.ireturn, 1) := by decide +kernel
theorem dX6_readBits_46 : decode cX6_readBits 46 = .ok (.iconst 0, 1) := by decide +kernel
theorem dX6_readBits_47 : decode cX6_readBits 47 = .ok (.ireturn, 1) := by decide +kernel
set_option maxRecDepth 20000 in
theorem ggX6_writeBits_X6_kind : GoodIn wsX6_writeBits wsX6_kind := goodIn_r _ [4] (by decide +kernel) (by decide +kernel)
set_option maxRecDepth 20000 in
theorem gX6_writeBits_X6_kind : GoodIn wsX6_writeBits (va_wsS RX6 19 yX6_kind wsX6_kind) := goodIn_app (goodIn_of _ (by decide +kernel)) ggX6_writeBits_X6_kind
set_option maxRecDepth 20000 in
theorem ggX6_writeBits_X6_target : GoodIn wsX6_writeBits wsX6_target := goodIn_r _ [7] (by decide +kernel) (by decide +kernel)
set_option maxRecDepth 20000 in
theorem gX6_writeBits_X6_target : GoodIn wsX6_writeBits (va_wsS RX6 23 yX6_target wsX6_target) := goodIn_app (goodIn_of _ (by decide +kernel)) ggX6_writeBits_X6_target
theorem dX6_writeBits_0 : decode cX6_writeBits 0 = .ok (.iload_n 0, 1) := by decide +kernel
theorem dX6_writeBits_1 : decode cX6_writeBits 1 = .ok (.invokestatic 19, 3) := by decide +kernel
theorem dX6_writeBits_4 : decode cX6_writeBits 4 = .ok (.tableswitch 35 0 2 #[28, 28, 28], 28) := by decide +kernel
theorem dX6_writeBits_32 : decode cX6_writeBits 32 = .ok (.iconst 1, 1) := by decide +kernel
theorem dX6_writeBits_33 : decode cX6_writeBits 33 = .ok (.iload_n 0, 1) := by decide +kernel
theorem dX6_writeBits_34 : decode cX6_writeBits 34 = .ok (.invokestatic 23, 3) := by decide +kernel
theorem dX6_writeBits_37 : decode cX6_writeBits 37 = .ok (.ishl, 1) := by decide +kernel
theorem dX6_writeBits_38 : decode cX6_writeBits 38 = .ok (.ireturn, 1) := by decide +kernel
theorem dX6_writeBits_39 : decode cX6_writeBits 39 = .ok (.iconst 0, 1) := by decide +kernel
theorem dX6_writeBits_40 : decode cX6_writeBits 40 = .ok (.ireturn, 1) := by decide +kernel
set_option maxRecDepth 20000 in
theorem ggX6_tiedByNumber_X6_writeBits : GoodIn wsX6_tiedByNumber wsX6_writeBits := goodIn_r _ [4, 5, 6, 3, 7, 8, 9, 10] (by decide +kernel) (by decide +kernel)
set_option maxRecDepth 20000 in
theorem gX6_tiedByNumber_X6_writeBits : GoodIn wsX6_tiedByNumber (va_wsS RX6 29 yX6_writeBits wsX6_writeBits) := goodIn_app (goodIn_of _ (by decide +kernel)) ggX6_tiedByNumber_X6_writeBits
set_option maxRecDepth 20000 in
theorem ggX6_tiedByNumber_X6_readBits : GoodIn wsX6_tiedByNumber wsX6_readBits := goodIn_r _ [13, 5, 6, 3, 7, 8, 9, 10, 14, 15, 16] (by decide +kernel) (by decide +kernel)
set_option maxRecDepth 20000 in
theorem gX6_tiedByNumber_X6_readBits : GoodIn wsX6_tiedByNumber (va_wsS RX6 32 yX6_readBits wsX6_readBits) := goodIn_app (goodIn_of _ (by decide +kernel)) ggX6_tiedByNumber_X6_readBits
theorem dX6_tiedByNumber_0 : decode cX6_tiedByNumber 0 = .ok (.iload_n 0, 1) := by decide +kernel
theorem dX6_tiedByNumber_1 : decode cX6_tiedByNumber 1 = .ok (.invokestatic 29, 3) := by decide +kernel
theorem dX6_tiedByNumber_4 : decode cX6_tiedByNumber 4 = .ok (.istore_n 2, 1) := by decide +kernel
theorem dX6_tiedByNumber_5 : decode cX6_tiedByNumber 5 = .ok (.iload_n 1, 1) := by decide +kernel
theorem dX6_tiedByNumber_6 : decode cX6_tiedByNumber 6 = .ok (.invokestatic 29, 3) := by decide +kernel
theorem dX6_tiedByNumber_9 : decode cX6_tiedByNumber 9 = .ok (.istore_n 3, 1) := by decide +kernel
theorem dX6_tiedByNumber_10 : decode cX6_tiedByNumber 10 = .ok (.iload_n 2, 1) := by decide +kernel
theorem dX6_tiedByNumber_11 : decode cX6_tiedByNumber 11 = .ok (.iload_n 3, 1) := by decide +kernel
theorem dX6_tiedByNumber_12 : decode cX6_tiedByNumber 12 = .ok (.iload_n 1, 1) := by decide +kernel
theorem dX6_tiedByNumber_13 : decode cX6_tiedByNumber 13 = .ok (.invokestatic 32, 3) := by decide +kernel
theorem dX6_tiedByNumber_16 : decode cX6_tiedByNumber 16 = .ok (.ior, 1) := by decide +kernel
theorem dX6_tiedByNumber_17 : decode cX6_tiedByNumber 17 = .ok (.iand, 1) := by decide +kernel
theorem dX6_tiedByNumber_18 : decode cX6_tiedByNumber 18 = .ok (.ifCond .ne 12, 3) := by decide +kernel
theorem dX6_tiedByNumber_21 : decode cX6_tiedByNumber 21 = .ok (.iload_n 3, 1) := by decide +kernel
theorem dX6_tiedByNumber_22 : decode cX6_tiedByNumber 22 = .ok (.iload_n 0, 1) := by decide +kernel
theorem dX6_tiedByNumber_23 : decode cX6_tiedByNumber 23 = .ok (.invokestatic 32, 3) := by decide +kernel
theorem dX6_tiedByNumber_26 : decode cX6_tiedByNumber 26 = .ok (.iand, 1) := by decide +kernel
theorem dX6_tiedByNumber_27 : decode cX6_tiedByNumber 27 = .ok (.ifCond .eq 7, 3) := by decide +kernel
theorem dX6_tiedByNumber_30 : decode cX6_tiedByNumber 30 = .ok (.iconst 1, 1) := by decide +kernel
theorem dX6_tiedByNumber_31 : decode cX6_tiedByNumber 31 = .ok (.goto 4, 3) := by decide +kernel
theorem dX6_tiedByNumber_34 : decode cX6_tiedByNumber 34 = .ok (.iconst 0, 1) := by decide +kernel
theorem dX6_tiedByNumber_35 : decode cX6_tiedByNumber 35 = .ok (.ireturn, 1) := by decide +kernel
set_option maxRecDepth 20000 in
theorem ggX6_tiedByLock_X6_kind : GoodIn wsX6_tiedByLock wsX6_kind := goodIn_r _ [4] (by decide +kernel) (by decide +kernel)
set_option maxRecDepth 20000 in
theorem gX6_tiedByLock_X6_kind : GoodIn wsX6_tiedByLock (va_wsS RX6 19 yX6_kind wsX6_kind) := goodIn_app (goodIn_of _ (by decide +kernel)) ggX6_tiedByLock_X6_kind
set_option maxRecDepth 20000 in
theorem ggX6_tiedByLock_X6_isLocking : GoodIn wsX6_tiedByLock wsX6_isLocking := goodIn_r _ [7] (by decide +kernel) (by decide +kernel)
set_option maxRecDepth 20000 in
theorem gX6_tiedByLock_X6_isLocking : GoodIn wsX6_tiedByLock (va_wsS RX6 13 yX6_isLocking wsX6_isLocking) := goodIn_app (goodIn_of _ (by decide +kernel)) ggX6_tiedByLock_X6_isLocking
set_option maxRecDepth 20000 in
theorem ggX6_tiedByLock_X6_target : GoodIn wsX6_tiedByLock wsX6_target := goodIn_r _ [10] (by decide +kernel) (by decide +kernel)
set_option maxRecDepth 20000 in
theorem gX6_tiedByLock_X6_target : GoodIn wsX6_tiedByLock (va_wsS RX6 23 yX6_target wsX6_target) := goodIn_app (goodIn_of _ (by decide +kernel)) ggX6_tiedByLock_X6_target
theorem dX6_tiedByLock_0 : decode cX6_tiedByLock 0 = .ok (.iload_n 0, 1) := by decide +kernel
theorem dX6_tiedByLock_1 : decode cX6_tiedByLock 1 = .ok (.invokestatic 19, 3) := by decide +kernel
theorem dX6_tiedByLock_4 : decode cX6_tiedByLock 4 = .ok (.invokestatic 13, 3) := by decide +kernel
theorem dX6_tiedByLock_7 : decode cX6_tiedByLock 7 = .ok (.ifCond .eq 28, 3) := by decide +kernel
theorem dX6_tiedByLock_10 : decode cX6_tiedByLock 10 = .ok (.iload_n 1, 1) := by decide +kernel
theorem dX6_tiedByLock_11 : decode cX6_tiedByLock 11 = .ok (.invokestatic 19, 3) := by decide +kernel
theorem dX6_tiedByLock_14 : decode cX6_tiedByLock 14 = .ok (.invokestatic 13, 3) := by decide +kernel
theorem dX6_tiedByLock_17 : decode cX6_tiedByLock 17 = .ok (.ifCond .eq 18, 3) := by decide +kernel
theorem dX6_tiedByLock_20 : decode cX6_tiedByLock 20 = .ok (.iload_n 0, 1) := by decide +kernel
theorem dX6_tiedByLock_21 : decode cX6_tiedByLock 21 = .ok (.invokestatic 23, 3) := by decide +kernel
theorem dX6_tiedByLock_24 : decode cX6_tiedByLock 24 = .ok (.iload_n 1, 1) := by decide +kernel
theorem dX6_tiedByLock_25 : decode cX6_tiedByLock 25 = .ok (.invokestatic 23, 3) := by decide +kernel
theorem dX6_tiedByLock_28 : decode cX6_tiedByLock 28 = .ok (.if_icmp .ne 7, 3) := by decide +kernel
theorem dX6_tiedByLock_31 : decode cX6_tiedByLock 31 = .ok (.iconst 1, 1) := by decide +kernel
theorem dX6_tiedByLock_32 : decode cX6_tiedByLock 32 = .ok (.goto 4, 3) := by decide +kernel
theorem dX6_tiedByLock_35 : decode cX6_tiedByLock 35 = .ok (.iconst 0, 1) := by decide +kernel
theorem dX6_tiedByLock_36 : decode cX6_tiedByLock 36 = .ok (.ireturn, 1) := by decide +kernel
set_option maxRecDepth 20000 in
theorem ggX6_tied_X6_tiedByNumber : GoodIn wsX6_tied wsX6_tiedByNumber := goodIn_r _ [4, 5, 6, 3, 7, 8, 9, 10, 11, 12, 13, 14, 15, 16, 17, 18, 19] (by decide +kernel) (by decide +kernel)
set_option maxRecDepth 20000 in
theorem gX6_tied_X6_tiedByNumber : GoodIn wsX6_tied (va_wsS RX6 35 yX6_tiedByNumber wsX6_tiedByNumber) := goodIn_app (goodIn_of _ (by decide +kernel)) ggX6_tied_X6_tiedByNumber
set_option maxRecDepth 20000 in
theorem ggX6_tied_X6_tiedByLock : GoodIn wsX6_tied wsX6_tiedByLock := goodIn_r _ [22, 8, 9, 3, 10, 23, 24, 25, 11, 12, 13] (by decide +kernel) (by decide +kernel)
set_option maxRecDepth 20000 in
theorem gX6_tied_X6_tiedByLock : GoodIn wsX6_tied (va_wsS RX6 38 yX6_tiedByLock wsX6_tiedByLock) := goodIn_app (goodIn_of _ (by decide +kernel)) ggX6_tied_X6_tiedByLock
theorem dX6_tied_0 : decode cX6_tied 0 = .ok (.iload_n 0, 1) := by decide +kernel
theorem dX6_tied_1 : decode cX6_tied 1 = .ok (.iload_n 1, 1) := by decide +kernel
theorem dX6_tied_2 : decode cX6_tied 2 = .ok (.invokestatic 35, 3) := by decide +kernel
theorem dX6_tied_5 : decode cX6_tied 5 = .ok (.ifCond .ne 11, 3) := by decide +kernel
theorem dX6_tied_8 : decode cX6_tied 8 = .ok (.iload_n 0, 1) := by decide +kernel
theorem dX6_tied_9 : decode cX6_tied 9 = .ok (.iload_n 1, 1) := by decide +kernel
theorem dX6_tied_10 : decode cX6_tied 10 = .ok (.invokestatic 38, 3) := by decide +kernel
theorem dX6_tied_13 : decode cX6_tied 13 = .ok (.ifCond .eq 7, 3) := by decide +kernel
theorem dX6_tied_16 : decode cX6_tied 16 = .ok (.iconst 1, 1) := by decide +kernel
theorem dX6_tied_17 : decode cX6_tied 17 = .ok (.goto 4, 3) := by decide +kernel
theorem dX6_tied_20 : decode cX6_tied 20 = .ok (.iconst 0, 1) := by decide +kernel
theorem dX6_tied_21 : decode cX6_tied 21 = .ok (.ireturn, 1) := by decide +kernel
theorem dX7_init_0 : decode cX7_init 0 = .ok (.aload_n 0, 1) := by decide +kernel
theorem dX7_init_1 : decode cX7_init 1 = .ok (.invokespecial 3, 3) := by decide +kernel
theorem dX7_init_4 : decode cX7_init 4 = .ok (.aload_n 0, 1) := by decide +kernel
theorem dX7_init_5 : decode cX7_init 5 = .ok (.bipush 120, 2) := by decide +kernel
theorem dX7_init_7 : decode cX7_init 7 = .ok (.newarray .byte, 2) := by decide +kernel
theorem dX7_init_9 : decode cX7_init 9 = .ok (.putfield 9, 3) := by decide +kernel
theorem dX7_init_12 : decode cX7_init 12 = .ok (.return_, 1) := by decide +kernel
theorem dX7_length_0 : decode cX7_length 0 = .ok (.aload_n 0, 1) := by decide +kernel
theorem dX7_length_1 : decode cX7_length 1 = .ok (.getfield 15, 3) := by decide +kernel
theorem dX7_length_4 : decode cX7_length 4 = .ok (.ireturn, 1) := by decide +kernel
theorem dX7_append_0 : decode cX7_append 0 = .ok (.aload_n 0, 1) := by decide +kernel
theorem dX7_append_1 : decode cX7_append 1 = .ok (.getfield 15, 3) := by decide +kernel
theorem dX7_append_4 : decode cX7_append 4 = .ok (.bipush 120, 2) := by decide +kernel
theorem dX7_append_6 : decode cX7_append 6 = .ok (.if_icmp .ge 24, 3) := by decide +kernel
theorem dX7_append_9 : decode cX7_append 9 = .ok (.aload_n 0, 1) := by decide +kernel
theorem dX7_append_10 : decode cX7_append 10 = .ok (.getfield 9, 3) := by decide +kernel
theorem dX7_append_13 : decode cX7_append 13 = .ok (.aload_n 0, 1) := by decide +kernel
theorem dX7_append_14 : decode cX7_append 14 = .ok (.getfield 15, 3) := by decide +kernel
theorem dX7_append_17 : decode cX7_append 17 = .ok (.iload_n 1, 1) := by decide +kernel
theorem dX7_append_18 : decode cX7_append 18 = .ok (.i2b, 1) := by decide +kernel
theorem dX7_append_19 : decode cX7_append 19 = .ok (.bastore, 1) := by decide +kernel
theorem dX7_append_20 : decode cX7_append 20 = .ok (.aload_n 0, 1) := by decide +kernel
theorem dX7_append_21 : decode cX7_append 21 = .ok (.dup, 1) := by decide +kernel
theorem dX7_append_22 : decode cX7_append 22 = .ok (.getfield 15, 3) := by decide +kernel
theorem dX7_append_25 : decode cX7_append 25 = .ok (.iconst 1, 1) := by decide +kernel
theorem dX7_append_26 : decode cX7_append 26 = .ok (.iadd, 1) := by decide +kernel
theorem dX7_append_27 : decode cX7_append 27 = .ok (.putfield 15, 3) := by decide +kernel
theorem dX7_append_30 : decode cX7_append 30 = .ok (.return_, 1) := by decide +kernel
theorem dX7_empty_0 : decode cX7_empty 0 = .ok (.aload_n 0, 1) := by decide +kernel
theorem dX7_empty_1 : decode cX7_empty 1 = .ok (.iconst 0, 1) := by decide +kernel
theorem dX7_empty_2 : decode cX7_empty 2 = .ok (.putfield 15, 3) := by decide +kernel
theorem dX7_empty_5 : decode cX7_empty 5 = .ok (.return_, 1) := by decide +kernel
set_option maxRecDepth 20000 in
theorem ggX7_readInto_X5_stepsInAll : GoodIn wsX7_readInto wsX5_stepsInAll := goodIn_r _ [8, 9, 75, 76, 77, 78, 79] (by decide +kernel) (by decide +kernel)
set_option maxRecDepth 20000 in
theorem gX7_readInto_X5_stepsInAll : GoodIn wsX7_readInto (wsV RX7 19 RX5 yX5_stepsInAll wsX5_stepsInAll) := goodIn_app (goodIn_of _ (by decide +kernel)) ggX7_readInto_X5_stepsInAll
set_option maxRecDepth 20000 in
theorem ggX7_readInto_X7_takes : GoodIn wsX7_readInto wsX7_takes := goodIn_r _ [14, 1, 15, 16, 17, 13, 18, 19, 20, 21, 22, 23, 24, 25, 7, 26, 9, 27, 28, 29, 30, 31, 32, 33, 34, 35, 36, 37, 38, 39, 40, 41, 42, 43, 44, 45, 46, 47, 48, 49, 50, 51, 52, 53, 54, 55, 56, 57, 58, 59, 60, 61, 62, 63, 64, 65, 66, 67, 68, 69, 70, 71, 72, 73, 74, 75, 76, 77, 78, 79] (by decide +kernel) (by decide +kernel)
set_option maxRecDepth 20000 in
theorem gX7_readInto_X7_takes : GoodIn wsX7_readInto (wsV RX7 28 RX7 yX7_takes wsX7_takes) := goodIn_app (goodIn_of _ (by decide +kernel)) ggX7_readInto_X7_takes
theorem dX7_readInto_0 : decode cX7_readInto 0 = .ok (.aload_n 1, 1) := by decide +kernel
theorem dX7_readInto_1 : decode cX7_readInto 1 = .ok (.invokevirtual 19, 3) := by decide +kernel
theorem dX7_readInto_4 : decode cX7_readInto 4 = .ok (.istore_n 2, 1) := by decide +kernel
theorem dX7_readInto_5 : decode cX7_readInto 5 = .ok (.aload_n 0, 1) := by decide +kernel
theorem dX7_readInto_6 : decode cX7_readInto 6 = .ok (.iconst 0, 1) := by decide +kernel
theorem dX7_readInto_7 : decode cX7_readInto 7 = .ok (.putfield 25, 3) := by decide +kernel
theorem dX7_readInto_10 : decode cX7_readInto 10 = .ok (.iconst 0, 1) := by decide +kernel
theorem dX7_readInto_11 : decode cX7_readInto 11 = .ok (.istore_n 3, 1) := by decide +kernel
theorem dX7_readInto_12 : decode cX7_readInto 12 = .ok (.iload_n 3, 1) := by decide +kernel
theorem dX7_readInto_13 : decode cX7_readInto 13 = .ok (.aload_n 0, 1) := by decide +kernel
theorem dX7_readInto_14 : decode cX7_readInto 14 = .ok (.getfield 15, 3) := by decide +kernel
theorem dX7_readInto_17 : decode cX7_readInto 17 = .ok (.if_icmp .ge 36, 3) := by decide +kernel
theorem dX7_readInto_20 : decode cX7_readInto 20 = .ok (.aload_n 0, 1) := by decide +kernel
theorem dX7_readInto_21 : decode cX7_readInto 21 = .ok (.getfield 9, 3) := by decide +kernel
theorem dX7_readInto_24 : decode cX7_readInto 24 = .ok (.iload_n 3, 1) := by decide +kernel
theorem dX7_readInto_25 : decode cX7_readInto 25 = .ok (.baload, 1) := by decide +kernel
theorem dX7_readInto_26 : decode cX7_readInto 26 = .ok (.bipush 32, 2) := by decide +kernel
theorem dX7_readInto_28 : decode cX7_readInto 28 = .ok (.if_icmp .eq 19, 3) := by decide +kernel
theorem dX7_readInto_31 : decode cX7_readInto 31 = .ok (.aload_n 0, 1) := by decide +kernel
theorem dX7_readInto_32 : decode cX7_readInto 32 = .ok (.aload_n 0, 1) := by decide +kernel
theorem dX7_readInto_33 : decode cX7_readInto 33 = .ok (.getfield 9, 3) := by decide +kernel
theorem dX7_readInto_36 : decode cX7_readInto 36 = .ok (.iload_n 3, 1) := by decide +kernel
theorem dX7_readInto_37 : decode cX7_readInto 37 = .ok (.baload, 1) := by decide +kernel
theorem dX7_readInto_38 : decode cX7_readInto 38 = .ok (.aload_n 1, 1) := by decide +kernel
theorem dX7_readInto_39 : decode cX7_readInto 39 = .ok (.invokevirtual 28, 3) := by decide +kernel
theorem dX7_readInto_42 : decode cX7_readInto 42 = .ok (.ifCond .ne 5, 3) := by decide +kernel
theorem dX7_readInto_45 : decode cX7_readInto 45 = .ok (.iload_n 3, 1) := by decide +kernel
theorem dX7_readInto_46 : decode cX7_readInto 46 = .ok (.ireturn, 1) := by decide +kernel
theorem dX7_readInto_47 : decode cX7_readInto 47 = .ok (.iinc 3 1, 3) := by decide +kernel
theorem dX7_readInto_50 : decode cX7_readInto 50 = .ok (.goto (-38), 3) := by decide +kernel
theorem dX7_readInto_53 : decode cX7_readInto 53 = .ok (.aload_n 0, 1) := by decide +kernel
theorem dX7_readInto_54 : decode cX7_readInto 54 = .ok (.getfield 25, 3) := by decide +kernel
theorem dX7_readInto_57 : decode cX7_readInto 57 = .ok (.ifCond .ne 15, 3) := by decide +kernel
theorem dX7_readInto_60 : decode cX7_readInto 60 = .ok (.aload_n 1, 1) := by decide +kernel
theorem dX7_readInto_61 : decode cX7_readInto 61 = .ok (.invokevirtual 19, 3) := by decide +kernel
theorem dX7_readInto_64 : decode cX7_readInto 64 = .ok (.iload_n 2, 1) := by decide +kernel
theorem dX7_readInto_65 : decode cX7_readInto 65 = .ok (.if_icmp .le 7, 3) := by decide +kernel
theorem dX7_readInto_68 : decode cX7_readInto 68 = .ok (.iconst (-1), 1) := by decide +kernel
theorem dX7_readInto_69 : decode cX7_readInto 69 = .ok (.goto 7, 3) := by decide +kernel
theorem dX7_readInto_72 : decode cX7_readInto 72 = .ok (.aload_n 0, 1) := by decide +kernel
theorem dX7_readInto_73 : decode cX7_readInto 73 = .ok (.getfield 15, 3) := by decide +kernel
theorem dX7_readInto_76 : decode cX7_readInto 76 = .ok (.ireturn, 1) := by decide +kernel
set_option maxRecDepth 20000 in
theorem ggX7_takes_X7_takesThread : GoodIn wsX7_takes wsX7_takesThread := goodIn_r _ [6, 7, 1, 8, 9, 10, 11, 12, 13, 14, 15, 16, 58, 59, 60, 61, 62, 63, 64, 65, 66, 67, 68, 69] (by decide +kernel) (by decide +kernel)
set_option maxRecDepth 20000 in
theorem gX7_takes_X7_takesThread : GoodIn wsX7_takes (wsV RX7 32 RX7 yX7_takesThread wsX7_takesThread) := goodIn_app (goodIn_of _ (by decide +kernel)) ggX7_takes_X7_takesThread
set_option maxRecDepth 20000 in
theorem ggX7_takes_X7_takesKind : GoodIn wsX7_takes wsX7_takesKind := goodIn_r _ [20, 21, 1, 22, 23, 5, 24, 58, 59, 60, 61, 62, 63, 64] (by decide +kernel) (by decide +kernel)
set_option maxRecDepth 20000 in
theorem gX7_takes_X7_takesKind : GoodIn wsX7_takes (wsV RX7 35 RX7 yX7_takesKind wsX7_takesKind) := goodIn_app (goodIn_of _ (by decide +kernel)) ggX7_takes_X7_takesKind
set_option maxRecDepth 20000 in
theorem ggX7_takes_X7_takesTarget : GoodIn wsX7_takes wsX7_takesTarget := goodIn_r _ [28, 21, 29, 30, 1, 31, 32, 33, 34, 8, 9, 10, 58, 59, 60, 61, 62, 63, 64] (by decide +kernel) (by decide +kernel)
set_option maxRecDepth 20000 in
theorem gX7_takes_X7_takesTarget : GoodIn wsX7_takes (wsV RX7 39 RX7 yX7_takesTarget wsX7_takesTarget) := goodIn_app (goodIn_of _ (by decide +kernel)) ggX7_takes_X7_takesTarget
set_option maxRecDepth 20000 in
theorem ggX7_takes_X7_takesValue : GoodIn wsX7_takes wsX7_takesValue := goodIn_r _ [38, 21, 30, 1, 8, 9, 10, 58, 59, 60, 61, 62, 63, 64] (by decide +kernel) (by decide +kernel)
set_option maxRecDepth 20000 in
theorem gX7_takes_X7_takesValue : GoodIn wsX7_takes (wsV RX7 42 RX7 yX7_takesValue wsX7_takesValue) := goodIn_app (goodIn_of _ (by decide +kernel)) ggX7_takes_X7_takesValue
set_option maxRecDepth 20000 in
theorem ggX7_takes_X7_takesEnd : GoodIn wsX7_takes wsX7_takesEnd := goodIn_r _ [42, 7, 21, 29, 30, 1, 43, 44, 33, 45, 46, 47, 48, 14, 49, 16, 50, 8, 9, 10, 51, 52, 53, 54, 55, 56, 57, 58, 59, 60, 61, 62, 63, 64, 65, 66, 67, 68, 69] (by decide +kernel) (by decide +kernel)
set_option maxRecDepth 20000 in
theorem gX7_takes_X7_takesEnd : GoodIn wsX7_takes (wsV RX7 45 RX7 yX7_takesEnd wsX7_takesEnd) := goodIn_app (goodIn_of _ (by decide +kernel)) ggX7_takes_X7_takesEnd
theorem dX7_takes_0 : decode cX7_takes 0 = .ok (.aload_n 0, 1) := by decide +kernel
theorem dX7_takes_1 : decode cX7_takes 1 = .ok (.getfield 25, 3) := by decide +kernel
theorem dX7_takes_4 : decode cX7_takes 4 = .ok (.tableswitch 60 0 3 #[32, 42, 48, 54], 32) := by decide +kernel
theorem dX7_takes_36 : decode cX7_takes 36 = .ok (.aload_n 0, 1) := by decide +kernel
theorem dX7_takes_37 : decode cX7_takes 37 = .ok (.iload_n 1, 1) := by decide +kernel
theorem dX7_takes_38 : decode cX7_takes 38 = .ok (.bipush 48, 2) := by decide +kernel
theorem dX7_takes_40 : decode cX7_takes 40 = .ok (.isub, 1) := by decide +kernel
theorem dX7_takes_41 : decode cX7_takes 41 = .ok (.aload_n 2, 1) := by decide +kernel
theorem dX7_takes_42 : decode cX7_takes 42 = .ok (.invokevirtual 32, 3) := by decide +kernel
theorem dX7_takes_45 : decode cX7_takes 45 = .ok (.ireturn, 1) := by decide +kernel
theorem dX7_takes_46 : decode cX7_takes 46 = .ok (.aload_n 0, 1) := by decide +kernel
theorem dX7_takes_47 : decode cX7_takes 47 = .ok (.iload_n 1, 1) := by decide +kernel
theorem dX7_takes_48 : decode cX7_takes 48 = .ok (.invokevirtual 35, 3) := by decide +kernel
theorem dX7_takes_51 : decode cX7_takes 51 = .ok (.ireturn, 1) := by decide +kernel
theorem dX7_takes_52 : decode cX7_takes 52 = .ok (.aload_n 0, 1) := by decide +kernel
theorem dX7_takes_53 : decode cX7_takes 53 = .ok (.iload_n 1, 1) := by decide +kernel
theorem dX7_takes_54 : decode cX7_takes 54 = .ok (.invokevirtual 39, 3) := by decide +kernel
theorem dX7_takes_57 : decode cX7_takes 57 = .ok (.ireturn, 1) := by decide +kernel
theorem dX7_takes_58 : decode cX7_takes 58 = .ok (.aload_n 0, 1) := by decide +kernel
theorem dX7_takes_59 : decode cX7_takes 59 = .ok (.iload_n 1, 1) := by decide +kernel
theorem dX7_takes_60 : decode cX7_takes 60 = .ok (.invokevirtual 42, 3) := by decide +kernel
theorem dX7_takes_63 : decode cX7_takes 63 = .ok (.ireturn, 1) := by decide +kernel
theorem dX7_takes_64 : decode cX7_takes 64 = .ok (.aload_n 0, 1) := by decide +kernel
theorem dX7_takes_65 : decode cX7_takes 65 = .ok (.iload_n 1, 1) := by decide +kernel
theorem dX7_takes_66 : decode cX7_takes 66 = .ok (.aload_n 2, 1) := by decide +kernel
theorem dX7_takes_67 : decode cX7_takes 67 = .ok (.invokevirtual 45, 3) := by decide +kernel
theorem dX7_takes_70 : decode cX7_takes 70 = .ok (.ireturn, 1) := by decide +kernel
set_option maxRecDepth 20000 in
theorem ggX7_takesThread_X8_below : GoodIn wsX7_takesThread wsX8_below := goodIn_r _ [5] (by decide +kernel) (by decide +kernel)
set_option maxRecDepth 20000 in
theorem gX7_takesThread_X8_below_n48 : GoodIn wsX7_takesThread (wsX8_below) := ggX7_takesThread_X8_below
set_option maxRecDepth 20000 in
theorem ggX7_takesThread_X5_stepsOf : GoodIn wsX7_takesThread wsX5_stepsOf := goodIn_r _ [10, 11, 3, 4, 5, 19, 20, 21, 22, 23] (by decide +kernel) (by decide +kernel)
set_option maxRecDepth 20000 in
theorem gX7_takesThread_X5_stepsOf : GoodIn wsX7_takesThread (wsV RX7 52 RX5 yX5_stepsOf wsX5_stepsOf) := goodIn_app (goodIn_of _ (by decide +kernel)) ggX7_takesThread_X5_stepsOf
theorem dX7_takesThread_0 : decode cX7_takesThread 0 = .ok (.iload_n 1, 1) := by decide +kernel
theorem dX7_takesThread_1 : decode cX7_takesThread 1 = .ok (.iconst 3, 1) := by decide +kernel
theorem dX7_takesThread_2 : decode cX7_takesThread 2 = .ok (.invokestatic 48, 3) := by decide +kernel
theorem dX7_takesThread_5 : decode cX7_takesThread 5 = .ok (.ifCond .eq 12, 3) := by decide +kernel
theorem dX7_takesThread_8 : decode cX7_takesThread 8 = .ok (.aload_n 2, 1) := by decide +kernel
theorem dX7_takesThread_9 : decode cX7_takesThread 9 = .ok (.iload_n 1, 1) := by decide +kernel
theorem dX7_takesThread_10 : decode cX7_takesThread 10 = .ok (.invokevirtual 52, 3) := by decide +kernel
theorem dX7_takesThread_13 : decode cX7_takesThread 13 = .ok (.iconst 4, 1) := by decide +kernel
theorem dX7_takesThread_14 : decode cX7_takesThread 14 = .ok (.if_icmp .lt 5, 3) := by decide +kernel
theorem dX7_takesThread_17 : decode cX7_takesThread 17 = .ok (.iconst 0, 1) := by decide +kernel
theorem dX7_takesThread_18 : decode cX7_takesThread 18 = .ok (.ireturn, 1) := by decide +kernel
theorem dX7_takesThread_19 : decode cX7_takesThread 19 = .ok (.aload_n 0, 1) := by decide +kernel
theorem dX7_takesThread_20 : decode cX7_takesThread 20 = .ok (.iload_n 1, 1) := by decide +kernel
theorem dX7_takesThread_21 : decode cX7_takesThread 21 = .ok (.putfield 56, 3) := by decide +kernel
theorem dX7_takesThread_24 : decode cX7_takesThread 24 = .ok (.aload_n 0, 1) := by decide +kernel
theorem dX7_takesThread_25 : decode cX7_takesThread 25 = .ok (.iconst 1, 1) := by decide +kernel
theorem dX7_takesThread_26 : decode cX7_takesThread 26 = .ok (.putfield 25, 3) := by decide +kernel
theorem dX7_takesThread_29 : decode cX7_takesThread 29 = .ok (.iconst 1, 1) := by decide +kernel
theorem dX7_takesThread_30 : decode cX7_takesThread 30 = .ok (.ireturn, 1) := by decide +kernel
set_option maxRecDepth 20000 in
theorem ggX7_takesKind_X7_kindOf : GoodIn wsX7_takesKind wsX7_kindOf := goodIn_r _ [6] (by decide +kernel) (by decide +kernel)
set_option maxRecDepth 20000 in
theorem gX7_takesKind_X7_kindOf : GoodIn wsX7_takesKind (va_wsS RX7 59 yX7_kindOf wsX7_kindOf) := goodIn_app (goodIn_of _ (by decide +kernel)) ggX7_takesKind_X7_kindOf
theorem dX7_takesKind_0 : decode cX7_takesKind 0 = .ok (.aload_n 0, 1) := by decide +kernel
theorem dX7_takesKind_1 : decode cX7_takesKind 1 = .ok (.iload_n 1, 1) := by decide +kernel
theorem dX7_takesKind_2 : decode cX7_takesKind 2 = .ok (.invokestatic 59, 3) := by decide +kernel
theorem dX7_takesKind_5 : decode cX7_takesKind 5 = .ok (.putfield 62, 3) := by decide +kernel
theorem dX7_takesKind_8 : decode cX7_takesKind 8 = .ok (.aload_n 0, 1) := by decide +kernel
theorem dX7_takesKind_9 : decode cX7_takesKind 9 = .ok (.iconst 2, 1) := by decide +kernel
theorem dX7_takesKind_10 : decode cX7_takesKind 10 = .ok (.putfield 25, 3) := by decide +kernel
theorem dX7_takesKind_13 : decode cX7_takesKind 13 = .ok (.aload_n 0, 1) := by decide +kernel
theorem dX7_takesKind_14 : decode cX7_takesKind 14 = .ok (.getfield 62, 3) := by decide +kernel
theorem dX7_takesKind_17 : decode cX7_takesKind 17 = .ok (.iconst (-1), 1) := by decide +kernel
theorem dX7_takesKind_18 : decode cX7_takesKind 18 = .ok (.if_icmp .eq 7, 3) := by decide +kernel
theorem dX7_takesKind_21 : decode cX7_takesKind 21 = .ok (.iconst 1, 1) := by decide +kernel
theorem dX7_takesKind_22 : decode cX7_takesKind 22 = .ok (.goto 4, 3) := by decide +kernel
theorem dX7_takesKind_25 : decode cX7_takesKind 25 = .ok (.iconst 0, 1) := by decide +kernel
theorem dX7_takesKind_26 : decode cX7_takesKind 26 = .ok (.ireturn, 1) := by decide +kernel
theorem dX7_kindOf_0 : decode cX7_kindOf 0 = .ok (.iload_n 0, 1) := by decide +kernel
theorem dX7_kindOf_1 : decode cX7_kindOf 1 = .ok (.lookupswitch 71 #[(97, 61), (99, 63), (102, 69), (107, 65), (108, 67), (119, 59)], 59) := by decide +kernel
theorem dX7_kindOf_60 : decode cX7_kindOf 60 = .ok (.iconst 0, 1) := by decide +kernel
theorem dX7_kindOf_61 : decode cX7_kindOf 61 = .ok (.ireturn, 1) := by decide +kernel
theorem dX7_kindOf_62 : decode cX7_kindOf 62 = .ok (.iconst 1, 1) := by decide +kernel
theorem dX7_kindOf_63 : decode cX7_kindOf 63 = .ok (.ireturn, 1) := by decide +kernel
theorem dX7_kindOf_64 : decode cX7_kindOf 64 = .ok (.iconst 2, 1) := by decide +kernel
theorem dX7_kindOf_65 : decode cX7_kindOf 65 = .ok (.ireturn, 1) := by decide +kernel
theorem dX7_kindOf_66 : decode cX7_kindOf 66 = .ok (.iconst 3, 1) := by decide +kernel
theorem dX7_kindOf_67 : decode cX7_kindOf 67 = .ok (.ireturn, 1) := by decide +kernel
theorem dX7_kindOf_68 : decode cX7_kindOf 68 = .ok (.iconst 4, 1) := by decide +kernel
theorem dX7_kindOf_69 : decode cX7_kindOf 69 = .ok (.ireturn, 1) := by decide +kernel
theorem dX7_kindOf_70 : decode cX7_kindOf 70 = .ok (.iconst 5, 1) := by decide +kernel
theorem dX7_kindOf_71 : decode cX7_kindOf 71 = .ok (.ireturn, 1) := by decide +kernel
theorem dX7_kindOf_72 : decode cX7_kindOf 72 = .ok (.iconst (-1), 1) := by decide +kernel
theorem dX7_kindOf_73 : decode cX7_kindOf 73 = .ok (.ireturn, 1) := by decide +kernel
set_option maxRecDepth 20000 in
theorem ggX7_takesTarget_X6_isLocking : GoodIn wsX7_takesTarget wsX6_isLocking := goodIn_r _ [8] (by decide +kernel) (by decide +kernel)
set_option maxRecDepth 20000 in
theorem gX7_takesTarget_X6_isLocking : GoodIn wsX7_takesTarget (va_wsS RX7 65 yX6_isLocking wsX6_isLocking) := goodIn_app (goodIn_of _ (by decide +kernel)) ggX7_takesTarget_X6_isLocking
set_option maxRecDepth 20000 in
theorem ggX7_takesTarget_X8_below : GoodIn wsX7_takesTarget wsX8_below := goodIn_r _ [11] (by decide +kernel) (by decide +kernel)
set_option maxRecDepth 20000 in
theorem gX7_takesTarget_X8_below_n48 : GoodIn wsX7_takesTarget (wsX8_below) := ggX7_takesTarget_X8_below
theorem dX7_takesTarget_0 : decode cX7_takesTarget 0 = .ok (.aload_n 0, 1) := by decide +kernel
theorem dX7_takesTarget_1 : decode cX7_takesTarget 1 = .ok (.getfield 62, 3) := by decide +kernel
theorem dX7_takesTarget_4 : decode cX7_takesTarget 4 = .ok (.invokestatic 65, 3) := by decide +kernel
theorem dX7_takesTarget_7 : decode cX7_takesTarget 7 = .ok (.istore_n 2, 1) := by decide +kernel
theorem dX7_takesTarget_8 : decode cX7_takesTarget 8 = .ok (.aload_n 0, 1) := by decide +kernel
theorem dX7_takesTarget_9 : decode cX7_takesTarget 9 = .ok (.iload_n 1, 1) := by decide +kernel
theorem dX7_takesTarget_10 : decode cX7_takesTarget 10 = .ok (.iload_n 2, 1) := by decide +kernel
theorem dX7_takesTarget_11 : decode cX7_takesTarget 11 = .ok (.ifCond .eq 8, 3) := by decide +kernel
theorem dX7_takesTarget_14 : decode cX7_takesTarget 14 = .ok (.bipush 48, 2) := by decide +kernel
theorem dX7_takesTarget_16 : decode cX7_takesTarget 16 = .ok (.goto 5, 3) := by decide +kernel
theorem dX7_takesTarget_19 : decode cX7_takesTarget 19 = .ok (.bipush 97, 2) := by decide +kernel
theorem dX7_takesTarget_21 : decode cX7_takesTarget 21 = .ok (.isub, 1) := by decide +kernel
theorem dX7_takesTarget_22 : decode cX7_takesTarget 22 = .ok (.putfield 70, 3) := by decide +kernel
theorem dX7_takesTarget_25 : decode cX7_takesTarget 25 = .ok (.aload_n 0, 1) := by decide +kernel
theorem dX7_takesTarget_26 : decode cX7_takesTarget 26 = .ok (.iconst 0, 1) := by decide +kernel
theorem dX7_takesTarget_27 : decode cX7_takesTarget 27 = .ok (.putfield 73, 3) := by decide +kernel
theorem dX7_takesTarget_30 : decode cX7_takesTarget 30 = .ok (.aload_n 0, 1) := by decide +kernel
theorem dX7_takesTarget_31 : decode cX7_takesTarget 31 = .ok (.iload_n 2, 1) := by decide +kernel
theorem dX7_takesTarget_32 : decode cX7_takesTarget 32 = .ok (.ifCond .eq 7, 3) := by decide +kernel
theorem dX7_takesTarget_35 : decode cX7_takesTarget 35 = .ok (.iconst 4, 1) := by decide +kernel
theorem dX7_takesTarget_36 : decode cX7_takesTarget 36 = .ok (.goto 4, 3) := by decide +kernel
theorem dX7_takesTarget_39 : decode cX7_takesTarget 39 = .ok (.iconst 3, 1) := by decide +kernel
theorem dX7_takesTarget_40 : decode cX7_takesTarget 40 = .ok (.putfield 25, 3) := by decide +kernel
theorem dX7_takesTarget_43 : decode cX7_takesTarget 43 = .ok (.aload_n 0, 1) := by decide +kernel
theorem dX7_takesTarget_44 : decode cX7_takesTarget 44 = .ok (.getfield 70, 3) := by decide +kernel
theorem dX7_takesTarget_47 : decode cX7_takesTarget 47 = .ok (.iload_n 2, 1) := by decide +kernel
theorem dX7_takesTarget_48 : decode cX7_takesTarget 48 = .ok (.ifCond .eq 7, 3) := by decide +kernel
theorem dX7_takesTarget_51 : decode cX7_takesTarget 51 = .ok (.iconst 2, 1) := by decide +kernel
theorem dX7_takesTarget_52 : decode cX7_takesTarget 52 = .ok (.goto 4, 3) := by decide +kernel
theorem dX7_takesTarget_55 : decode cX7_takesTarget 55 = .ok (.iconst 4, 1) := by decide +kernel
theorem dX7_takesTarget_56 : decode cX7_takesTarget 56 = .ok (.invokestatic 48, 3) := by decide +kernel
theorem dX7_takesTarget_59 : decode cX7_takesTarget 59 = .ok (.ireturn, 1) := by decide +kernel
set_option maxRecDepth 20000 in
theorem ggX7_takesValue_X8_below : GoodIn wsX7_takesValue wsX8_below := goodIn_r _ [6] (by decide +kernel) (by decide +kernel)
set_option maxRecDepth 20000 in
theorem gX7_takesValue_X8_below_n48 : GoodIn wsX7_takesValue (wsX8_below) := ggX7_takesValue_X8_below
theorem dX7_takesValue_0 : decode cX7_takesValue 0 = .ok (.aload_n 0, 1) := by decide +kernel
theorem dX7_takesValue_1 : decode cX7_takesValue 1 = .ok (.iload_n 1, 1) := by decide +kernel
theorem dX7_takesValue_2 : decode cX7_takesValue 2 = .ok (.aload_n 0, 1) := by decide +kernel
theorem dX7_takesValue_3 : decode cX7_takesValue 3 = .ok (.getfield 62, 3) := by decide +kernel
theorem dX7_takesValue_6 : decode cX7_takesValue 6 = .ok (.iconst 2, 1) := by decide +kernel
theorem dX7_takesValue_7 : decode cX7_takesValue 7 = .ok (.if_icmp .ne 8, 3) := by decide +kernel
theorem dX7_takesValue_10 : decode cX7_takesValue 10 = .ok (.bipush 97, 2) := by decide +kernel
theorem dX7_takesValue_12 : decode cX7_takesValue 12 = .ok (.goto 5, 3) := by decide +kernel
theorem dX7_takesValue_15 : decode cX7_takesValue 15 = .ok (.bipush 48, 2) := by decide +kernel
theorem dX7_takesValue_17 : decode cX7_takesValue 17 = .ok (.isub, 1) := by decide +kernel
theorem dX7_takesValue_18 : decode cX7_takesValue 18 = .ok (.putfield 73, 3) := by decide +kernel
theorem dX7_takesValue_21 : decode cX7_takesValue 21 = .ok (.aload_n 0, 1) := by decide +kernel
theorem dX7_takesValue_22 : decode cX7_takesValue 22 = .ok (.iconst 4, 1) := by decide +kernel
theorem dX7_takesValue_23 : decode cX7_takesValue 23 = .ok (.putfield 25, 3) := by decide +kernel
theorem dX7_takesValue_26 : decode cX7_takesValue 26 = .ok (.aload_n 0, 1) := by decide +kernel
theorem dX7_takesValue_27 : decode cX7_takesValue 27 = .ok (.getfield 73, 3) := by decide +kernel
theorem dX7_takesValue_30 : decode cX7_takesValue 30 = .ok (.aload_n 0, 1) := by decide +kernel
theorem dX7_takesValue_31 : decode cX7_takesValue 31 = .ok (.getfield 62, 3) := by decide +kernel
theorem dX7_takesValue_34 : decode cX7_takesValue 34 = .ok (.iconst 2, 1) := by decide +kernel
theorem dX7_takesValue_35 : decode cX7_takesValue 35 = .ok (.if_icmp .ne 7, 3) := by decide +kernel
theorem dX7_takesValue_38 : decode cX7_takesValue 38 = .ok (.iconst 4, 1) := by decide +kernel
theorem dX7_takesValue_39 : decode cX7_takesValue 39 = .ok (.goto 5, 3) := by decide +kernel
theorem dX7_takesValue_42 : decode cX7_takesValue 42 = .ok (.bipush 10, 2) := by decide +kernel
theorem dX7_takesValue_44 : decode cX7_takesValue 44 = .ok (.invokestatic 48, 3) := by decide +kernel
theorem dX7_takesValue_47 : decode cX7_takesValue 47 = .ok (.ireturn, 1) := by decide +kernel
set_option maxRecDepth 20000 in
theorem ggX7_takesEnd_X6_packed : GoodIn wsX7_takesEnd wsX6_packed := goodIn_r _ [9] (by decide +kernel) (by decide +kernel)
set_option maxRecDepth 20000 in
theorem gX7_takesEnd_X6_packed : GoodIn wsX7_takesEnd (va_wsS RX7 76 yX6_packed wsX6_packed) := goodIn_app (goodIn_of _ (by decide +kernel)) ggX7_takesEnd_X6_packed
set_option maxRecDepth 20000 in
theorem ggX7_takesEnd_X5_addStep : GoodIn wsX7_takesEnd wsX5_addStep := goodIn_r _ [14, 15, 16, 17, 18, 19, 20, 21, 22, 13, 23, 24, 25, 26, 34, 35, 36, 37, 38] (by decide +kernel) (by decide +kernel)
set_option maxRecDepth 20000 in
theorem gX7_takesEnd_X5_addStep : GoodIn wsX7_takesEnd (wsV RX7 80 RX5 yX5_addStep wsX5_addStep) := goodIn_app (goodIn_of _ (by decide +kernel)) ggX7_takesEnd_X5_addStep
theorem dX7_takesEnd_0 : decode cX7_takesEnd 0 = .ok (.iload_n 1, 1) := by decide +kernel
theorem dX7_takesEnd_1 : decode cX7_takesEnd 1 = .ok (.bipush 59, 2) := by decide +kernel
theorem dX7_takesEnd_3 : decode cX7_takesEnd 3 = .ok (.if_icmp .eq 5, 3) := by decide +kernel
theorem dX7_takesEnd_6 : decode cX7_takesEnd 6 = .ok (.iconst 0, 1) := by decide +kernel
theorem dX7_takesEnd_7 : decode cX7_takesEnd 7 = .ok (.ireturn, 1) := by decide +kernel
theorem dX7_takesEnd_8 : decode cX7_takesEnd 8 = .ok (.aload_n 2, 1) := by decide +kernel
theorem dX7_takesEnd_9 : decode cX7_takesEnd 9 = .ok (.aload_n 0, 1) := by decide +kernel
theorem dX7_takesEnd_10 : decode cX7_takesEnd 10 = .ok (.getfield 56, 3) := by decide +kernel
theorem dX7_takesEnd_13 : decode cX7_takesEnd 13 = .ok (.aload_n 0, 1) := by decide +kernel
theorem dX7_takesEnd_14 : decode cX7_takesEnd 14 = .ok (.getfield 62, 3) := by decide +kernel
theorem dX7_takesEnd_17 : decode cX7_takesEnd 17 = .ok (.aload_n 0, 1) := by decide +kernel
theorem dX7_takesEnd_18 : decode cX7_takesEnd 18 = .ok (.getfield 70, 3) := by decide +kernel
theorem dX7_takesEnd_21 : decode cX7_takesEnd 21 = .ok (.aload_n 0, 1) := by decide +kernel
theorem dX7_takesEnd_22 : decode cX7_takesEnd 22 = .ok (.getfield 73, 3) := by decide +kernel
theorem dX7_takesEnd_25 : decode cX7_takesEnd 25 = .ok (.invokestatic 76, 3) := by decide +kernel
theorem dX7_takesEnd_28 : decode cX7_takesEnd 28 = .ok (.invokevirtual 80, 3) := by decide +kernel
theorem dX7_takesEnd_31 : decode cX7_takesEnd 31 = .ok (.aload_n 0, 1) := by decide +kernel
theorem dX7_takesEnd_32 : decode cX7_takesEnd 32 = .ok (.iconst 0, 1) := by decide +kernel
theorem dX7_takesEnd_33 : decode cX7_takesEnd 33 = .ok (.putfield 25, 3) := by decide +kernel
theorem dX7_takesEnd_36 : decode cX7_takesEnd 36 = .ok (.iconst 1, 1) := by decide +kernel
theorem dX7_takesEnd_37 : decode cX7_takesEnd 37 = .ok (.ireturn, 1) := by decide +kernel
set_option maxRecDepth 20000 in
theorem ggX8_init_X5_init : GoodIn wsX8_init wsX5_init := goodIn_r _ [26, 27, 2, 3, 28, 29, 30, 55, 56, 57, 58, 59] (by decide +kernel) (by decide +kernel)
set_option maxRecDepth 20000 in
theorem gX8_init_X5_init_n11 : GoodIn wsX8_init (wsX5_init) := ggX8_init_X5_init
set_option maxRecDepth 20000 in
theorem ggX8_init_X3_init : GoodIn wsX8_init wsX3_init := goodIn_r _ [33, 34, 2, 3, 35, 36, 5, 6, 25, 26, 27, 28, 29, 30, 69, 70, 71, 55, 56, 57, 58, 59] (by decide +kernel) (by decide +kernel)
set_option maxRecDepth 20000 in
theorem gX8_init_X3_init : GoodIn wsX8_init (wsX3_init) := ggX8_init_X3_init
set_option maxRecDepth 20000 in
theorem ggX8_init_X0_init : GoodIn wsX8_init wsX0_init := goodIn_r _ [38, 39, 2, 3, 40, 5, 6, 41, 42, 28, 43, 44, 45, 25, 26, 27, 29, 30, 55, 56, 57, 58, 59, 72, 73, 74, 75, 76, 77, 78, 79, 80] (by decide +kernel) (by decide +kernel)
set_option maxRecDepth 20000 in
theorem gX8_init_X0_init_n28 : GoodIn wsX8_init (wsX0_init) := ggX8_init_X0_init
set_option maxRecDepth 20000 in
theorem ggX8_init_X1_init : GoodIn wsX8_init wsX1_init := goodIn_r _ [47, 48, 2, 3, 44, 49, 81] (by decide +kernel) (by decide +kernel)
set_option maxRecDepth 20000 in
theorem gX8_init_X1_init_n35 : GoodIn wsX8_init (wsX1_init) := ggX8_init_X1_init
set_option maxRecDepth 20000 in
theorem ggX8_init_X7_init : GoodIn wsX8_init wsX7_init := goodIn_r _ [51, 52, 2, 3, 53, 54, 82, 83, 84, 85, 86, 87, 88] (by decide +kernel) (by decide +kernel)
set_option maxRecDepth 20000 in
theorem gX8_init_X7_init_n42 : GoodIn wsX8_init (wsX7_init) := ggX8_init_X7_init
theorem dX8_init_0 : decode cX8_init 0 = .ok (.aload_n 0, 1) := by decide +kernel
theorem dX8_init_1 : decode cX8_init 1 = .ok (.invokespecial 3, 3) := by decide +kernel
theorem dX8_init_4 : decode cX8_init 4 = .ok (.aload_n 0, 1) := by decide +kernel
theorem dX8_init_5 : decode cX8_init 5 = .ok (.new 9, 3) := by decide +kernel
theorem dX8_init_8 : decode cX8_init 8 = .ok (.dup, 1) := by decide +kernel
theorem dX8_init_9 : decode cX8_init 9 = .ok (.invokespecial 11, 3) := by decide +kernel
theorem dX8_init_12 : decode cX8_init 12 = .ok (.putfield 12, 3) := by decide +kernel
theorem dX8_init_15 : decode cX8_init 15 = .ok (.aload_n 0, 1) := by decide +kernel
theorem dX8_init_16 : decode cX8_init 16 = .ok (.new 9, 3) := by decide +kernel
theorem dX8_init_19 : decode cX8_init 19 = .ok (.dup, 1) := by decide +kernel
theorem dX8_init_20 : decode cX8_init 20 = .ok (.invokespecial 11, 3) := by decide +kernel
theorem dX8_init_23 : decode cX8_init 23 = .ok (.putfield 16, 3) := by decide +kernel
theorem dX8_init_26 : decode cX8_init 26 = .ok (.aload_n 0, 1) := by decide +kernel
theorem dX8_init_27 : decode cX8_init 27 = .ok (.new 19, 3) := by decide +kernel
theorem dX8_init_30 : decode cX8_init 30 = .ok (.dup, 1) := by decide +kernel
theorem dX8_init_31 : decode cX8_init 31 = .ok (.invokespecial 21, 3) := by decide +kernel
theorem dX8_init_34 : decode cX8_init 34 = .ok (.putfield 22, 3) := by decide +kernel
theorem dX8_init_37 : decode cX8_init 37 = .ok (.aload_n 0, 1) := by decide +kernel
theorem dX8_init_38 : decode cX8_init 38 = .ok (.new 26, 3) := by decide +kernel
theorem dX8_init_41 : decode cX8_init 41 = .ok (.dup, 1) := by decide +kernel
theorem dX8_init_42 : decode cX8_init 42 = .ok (.invokespecial 28, 3) := by decide +kernel
theorem dX8_init_45 : decode cX8_init 45 = .ok (.putfield 29, 3) := by decide +kernel
theorem dX8_init_48 : decode cX8_init 48 = .ok (.aload_n 0, 1) := by decide +kernel
theorem dX8_init_49 : decode cX8_init 49 = .ok (.new 33, 3) := by decide +kernel
theorem dX8_init_52 : decode cX8_init 52 = .ok (.dup, 1) := by decide +kernel
theorem dX8_init_53 : decode cX8_init 53 = .ok (.invokespecial 35, 3) := by decide +kernel
theorem dX8_init_56 : decode cX8_init 56 = .ok (.putfield 36, 3) := by decide +kernel
theorem dX8_init_59 : decode cX8_init 59 = .ok (.aload_n 0, 1) := by decide +kernel
theorem dX8_init_60 : decode cX8_init 60 = .ok (.new 40, 3) := by decide +kernel
theorem dX8_init_63 : decode cX8_init 63 = .ok (.dup, 1) := by decide +kernel
theorem dX8_init_64 : decode cX8_init 64 = .ok (.invokespecial 42, 3) := by decide +kernel
theorem dX8_init_67 : decode cX8_init 67 = .ok (.putfield 43, 3) := by decide +kernel
theorem dX8_init_70 : decode cX8_init 70 = .ok (.return_, 1) := by decide +kernel
set_option maxRecDepth 20000 in
theorem ggX8_step_X8_below : GoodIn wsX8_step wsX8_below := goodIn_r _ [6] (by decide +kernel) (by decide +kernel)
set_option maxRecDepth 20000 in
theorem gX8_step_X8_below : GoodIn wsX8_step (va_wsS RX8 47 yX8_below wsX8_below) := goodIn_app (goodIn_of _ (by decide +kernel)) ggX8_step_X8_below
set_option maxRecDepth 20000 in
theorem ggX8_step_X6_isOne : GoodIn wsX8_step wsX6_isOne := goodIn_r _ [10, 4, 5, 6, 11, 12, 9, 13] (by decide +kernel) (by decide +kernel)
set_option maxRecDepth 20000 in
theorem gX8_step_X6_isOne : GoodIn wsX8_step (va_wsS RX8 51 yX6_isOne wsX6_isOne) := goodIn_app (goodIn_of _ (by decide +kernel)) ggX8_step_X6_isOne
set_option maxRecDepth 20000 in
theorem ggX8_step_X8_refused : GoodIn wsX8_step wsX8_refused := goodIn_r _ [17, 18, 19, 20, 58, 59, 60, 61, 62, 63, 64, 65, 66] (by decide +kernel) (by decide +kernel)
set_option maxRecDepth 20000 in
theorem gX8_step_X8_refused : GoodIn wsX8_step (wsV RX8 57 RX8 yX8_refused wsX8_refused) := goodIn_app (goodIn_of _ (by decide +kernel)) ggX8_step_X8_refused
set_option maxRecDepth 20000 in
theorem ggX8_step_X5_stepsOf : GoodIn wsX8_step wsX5_stepsOf := goodIn_r _ [25, 26, 4, 5, 6, 67, 68, 69, 70, 71] (by decide +kernel) (by decide +kernel)
set_option maxRecDepth 20000 in
theorem gX8_step_X5_stepsOf : GoodIn wsX8_step (wsV RX8 61 RX5 yX5_stepsOf wsX5_stepsOf) := goodIn_app (goodIn_of _ (by decide +kernel)) ggX8_step_X5_stepsOf
set_option maxRecDepth 20000 in
theorem ggX8_step_X3_keep : GoodIn wsX8_step wsX3_keep := goodIn_r _ [31, 32, 33, 34, 35, 36, 37, 24, 38, 39, 40, 41, 42, 43, 26, 44, 45, 46, 72, 73, 74, 67, 68, 69, 70, 71] (by decide +kernel) (by decide +kernel)
set_option maxRecDepth 20000 in
theorem gX8_step_X3_keep : GoodIn wsX8_step (wsV RX8 64 RX3 yX3_keep wsX3_keep) := goodIn_app (goodIn_of _ (by decide +kernel)) ggX8_step_X3_keep
set_option maxRecDepth 20000 in
theorem ggX8_step_X6_packed : GoodIn wsX8_step wsX6_packed := goodIn_r _ [49] (by decide +kernel) (by decide +kernel)
set_option maxRecDepth 20000 in
theorem gX8_step_X6_packed : GoodIn wsX8_step (va_wsS RX8 68 yX6_packed wsX6_packed) := goodIn_app (goodIn_of _ (by decide +kernel)) ggX8_step_X6_packed
set_option maxRecDepth 20000 in
theorem ggX8_step_X5_addStep : GoodIn wsX8_step wsX5_addStep := goodIn_r _ [53, 26, 39, 4, 5, 6, 54, 55, 56, 24, 57, 44, 45, 46, 67, 68, 69, 70, 71] (by decide +kernel) (by decide +kernel)
set_option maxRecDepth 20000 in
theorem gX8_step_X5_addStep : GoodIn wsX8_step (wsV RX8 72 RX5 yX5_addStep wsX5_addStep) := goodIn_app (goodIn_of _ (by decide +kernel)) ggX8_step_X5_addStep
theorem dX8_step_0 : decode cX8_step 0 = .ok (.iload_n 1, 1) := by decide +kernel
theorem dX8_step_1 : decode cX8_step 1 = .ok (.iconst 3, 1) := by decide +kernel
theorem dX8_step_2 : decode cX8_step 2 = .ok (.invokestatic 47, 3) := by decide +kernel
theorem dX8_step_5 : decode cX8_step 5 = .ok (.ifCond .eq 13, 3) := by decide +kernel
theorem dX8_step_8 : decode cX8_step 8 = .ok (.iload_n 2, 1) := by decide +kernel
theorem dX8_step_9 : decode cX8_step 9 = .ok (.iload_n 3, 1) := by decide +kernel
theorem dX8_step_10 : decode cX8_step 10 = .ok (.iload 4, 2) := by decide +kernel
theorem dX8_step_12 : decode cX8_step 12 = .ok (.invokestatic 51, 3) := by decide +kernel
theorem dX8_step_15 : decode cX8_step 15 = .ok (.ifCond .ne 10, 3) := by decide +kernel
theorem dX8_step_18 : decode cX8_step 18 = .ok (.aload_n 0, 1) := by decide +kernel
theorem dX8_step_19 : decode cX8_step 19 = .ok (.bipush (-2), 2) := by decide +kernel
theorem dX8_step_21 : decode cX8_step 21 = .ok (.invokevirtual 57, 3) := by decide +kernel
theorem dX8_step_24 : decode cX8_step 24 = .ok (.ireturn, 1) := by decide +kernel
theorem dX8_step_25 : decode cX8_step 25 = .ok (.aload_n 0, 1) := by decide +kernel
theorem dX8_step_26 : decode cX8_step 26 = .ok (.getfield 12, 3) := by decide +kernel
theorem dX8_step_29 : decode cX8_step 29 = .ok (.iload_n 1, 1) := by decide +kernel
theorem dX8_step_30 : decode cX8_step 30 = .ok (.invokevirtual 61, 3) := by decide +kernel
theorem dX8_step_33 : decode cX8_step 33 = .ok (.iconst 4, 1) := by decide +kernel
theorem dX8_step_34 : decode cX8_step 34 = .ok (.if_icmp .lt 10, 3) := by decide +kernel
theorem dX8_step_37 : decode cX8_step 37 = .ok (.aload_n 0, 1) := by decide +kernel
theorem dX8_step_38 : decode cX8_step 38 = .ok (.bipush (-4), 2) := by decide +kernel
theorem dX8_step_40 : decode cX8_step 40 = .ok (.invokevirtual 57, 3) := by decide +kernel
theorem dX8_step_43 : decode cX8_step 43 = .ok (.ireturn, 1) := by decide +kernel
theorem dX8_step_44 : decode cX8_step 44 = .ok (.aload_n 0, 1) := by decide +kernel
theorem dX8_step_45 : decode cX8_step 45 = .ok (.getfield 22, 3) := by decide +kernel
theorem dX8_step_48 : decode cX8_step 48 = .ok (.aload_n 0, 1) := by decide +kernel
theorem dX8_step_49 : decode cX8_step 49 = .ok (.getfield 12, 3) := by decide +kernel
theorem dX8_step_52 : decode cX8_step 52 = .ok (.invokevirtual 64, 3) := by decide +kernel
theorem dX8_step_55 : decode cX8_step 55 = .ok (.aload_n 0, 1) := by decide +kernel
theorem dX8_step_56 : decode cX8_step 56 = .ok (.getfield 12, 3) := by decide +kernel
theorem dX8_step_59 : decode cX8_step 59 = .ok (.iload_n 1, 1) := by decide +kernel
theorem dX8_step_60 : decode cX8_step 60 = .ok (.iload_n 2, 1) := by decide +kernel
theorem dX8_step_61 : decode cX8_step 61 = .ok (.iload_n 3, 1) := by decide +kernel
theorem dX8_step_62 : decode cX8_step 62 = .ok (.iload 4, 2) := by decide +kernel
theorem dX8_step_64 : decode cX8_step 64 = .ok (.invokestatic 68, 3) := by decide +kernel
theorem dX8_step_67 : decode cX8_step 67 = .ok (.invokevirtual 72, 3) := by decide +kernel
theorem dX8_step_70 : decode cX8_step 70 = .ok (.aload_n 0, 1) := by decide +kernel
theorem dX8_step_71 : decode cX8_step 71 = .ok (.getfield 12, 3) := by decide +kernel
theorem dX8_step_74 : decode cX8_step 74 = .ok (.iload_n 1, 1) := by decide +kernel
theorem dX8_step_75 : decode cX8_step 75 = .ok (.invokevirtual 61, 3) := by decide +kernel
theorem dX8_step_78 : decode cX8_step 78 = .ok (.iconst 1, 1) := by decide +kernel
theorem dX8_step_79 : decode cX8_step 79 = .ok (.isub, 1) := by decide +kernel
theorem dX8_step_80 : decode cX8_step 80 = .ok (.ireturn, 1) := by decide +kernel
set_option maxRecDepth 20000 in
theorem ggX8_drops_X8_below : GoodIn wsX8_drops wsX8_below := goodIn_r _ [6] (by decide +kernel) (by decide +kernel)
set_option maxRecDepth 20000 in
theorem gX8_drops_X8_below : GoodIn wsX8_drops (va_wsS RX8 47 yX8_below wsX8_below) := goodIn_app (goodIn_of _ (by decide +kernel)) ggX8_drops_X8_below
set_option maxRecDepth 20000 in
theorem ggX8_drops_X8_refused : GoodIn wsX8_drops wsX8_refused := goodIn_r _ [10, 11, 12, 13, 48, 49, 50, 51, 52, 53, 54, 55, 56] (by decide +kernel) (by decide +kernel)
set_option maxRecDepth 20000 in
theorem gX8_drops_X8_refused : GoodIn wsX8_drops (wsV RX8 57 RX8 yX8_refused wsX8_refused) := goodIn_app (goodIn_of _ (by decide +kernel)) ggX8_drops_X8_refused
set_option maxRecDepth 20000 in
theorem ggX8_drops_X5_stepsOf : GoodIn wsX8_drops wsX5_stepsOf := goodIn_r _ [18, 19, 4, 5, 6, 57, 58, 59, 60, 61] (by decide +kernel) (by decide +kernel)
set_option maxRecDepth 20000 in
theorem gX8_drops_X5_stepsOf : GoodIn wsX8_drops (wsV RX8 61 RX5 yX5_stepsOf wsX5_stepsOf) := goodIn_app (goodIn_of _ (by decide +kernel)) ggX8_drops_X5_stepsOf
set_option maxRecDepth 20000 in
theorem ggX8_drops_X3_keep : GoodIn wsX8_drops wsX3_keep := goodIn_r _ [24, 25, 26, 27, 28, 29, 30, 17, 31, 32, 33, 34, 35, 36, 19, 37, 38, 39, 62, 63, 64, 57, 58, 59, 60, 61] (by decide +kernel) (by decide +kernel)
set_option maxRecDepth 20000 in
theorem gX8_drops_X3_keep : GoodIn wsX8_drops (wsV RX8 64 RX3 yX3_keep wsX3_keep) := goodIn_app (goodIn_of _ (by decide +kernel)) ggX8_drops_X3_keep
set_option maxRecDepth 20000 in
theorem ggX8_drops_X5_dropStep : GoodIn wsX8_drops wsX5_dropStep := goodIn_r _ [43, 19, 4, 5, 6, 44, 45, 46, 17, 47, 37, 38, 39, 57, 58, 59, 60, 61] (by decide +kernel) (by decide +kernel)
set_option maxRecDepth 20000 in
theorem gX8_drops_X5_dropStep : GoodIn wsX8_drops (wsV RX8 76 RX5 yX5_dropStep wsX5_dropStep) := goodIn_app (goodIn_of _ (by decide +kernel)) ggX8_drops_X5_dropStep
theorem dX8_drops_0 : decode cX8_drops 0 = .ok (.iload_n 1, 1) := by decide +kernel
theorem dX8_drops_1 : decode cX8_drops 1 = .ok (.iconst 3, 1) := by decide +kernel
theorem dX8_drops_2 : decode cX8_drops 2 = .ok (.invokestatic 47, 3) := by decide +kernel
theorem dX8_drops_5 : decode cX8_drops 5 = .ok (.ifCond .ne 10, 3) := by decide +kernel
theorem dX8_drops_8 : decode cX8_drops 8 = .ok (.aload_n 0, 1) := by decide +kernel
theorem dX8_drops_9 : decode cX8_drops 9 = .ok (.bipush (-2), 2) := by decide +kernel
theorem dX8_drops_11 : decode cX8_drops 11 = .ok (.invokevirtual 57, 3) := by decide +kernel
theorem dX8_drops_14 : decode cX8_drops 14 = .ok (.ireturn, 1) := by decide +kernel
theorem dX8_drops_15 : decode cX8_drops 15 = .ok (.aload_n 0, 1) := by decide +kernel
theorem dX8_drops_16 : decode cX8_drops 16 = .ok (.getfield 12, 3) := by decide +kernel
theorem dX8_drops_19 : decode cX8_drops 19 = .ok (.iload_n 1, 1) := by decide +kernel
theorem dX8_drops_20 : decode cX8_drops 20 = .ok (.invokevirtual 61, 3) := by decide +kernel
theorem dX8_drops_23 : decode cX8_drops 23 = .ok (.ifCond .ne 10, 3) := by decide +kernel
theorem dX8_drops_26 : decode cX8_drops 26 = .ok (.aload_n 0, 1) := by decide +kernel
theorem dX8_drops_27 : decode cX8_drops 27 = .ok (.bipush (-3), 2) := by decide +kernel
theorem dX8_drops_29 : decode cX8_drops 29 = .ok (.invokevirtual 57, 3) := by decide +kernel
theorem dX8_drops_32 : decode cX8_drops 32 = .ok (.ireturn, 1) := by decide +kernel
