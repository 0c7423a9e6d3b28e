theorem dX8_digestSteps_41 : decode cX8_digestSteps 41 = .ok (.lmul, 1) := by decide +kernel
theorem dX8_digestSteps_42 : decode cX8_digestSteps 42 = .ok (.aload_n 0, 1) := by decide +kernel
theorem dX8_digestSteps_43 : decode cX8_digestSteps 43 = .ok (.iload 5, 2) := by decide +kernel
theorem dX8_digestSteps_45 : decode cX8_digestSteps 45 = .ok (.iload 6, 2) := by decide +kernel
theorem dX8_digestSteps_47 : decode cX8_digestSteps 47 = .ok (.iload 7, 2) := by decide +kernel
theorem dX8_digestSteps_49 : decode cX8_digestSteps 49 = .ok (.invokevirtual 241, 3) := by decide +kernel
theorem dX8_digestSteps_52 : decode cX8_digestSteps 52 = .ok (.i2l, 1) := by decide +kernel
theorem dX8_digestSteps_53 : decode cX8_digestSteps 53 = .ok (.ladd, 1) := by decide +kernel
theorem dX8_digestSteps_54 : decode cX8_digestSteps 54 = .ok (.lstore_n 3, 1) := by decide +kernel
theorem dX8_digestSteps_55 : decode cX8_digestSteps 55 = .ok (.iinc 7 1, 3) := by decide +kernel
theorem dX8_digestSteps_58 : decode cX8_digestSteps 58 = .ok (.goto (-27), 3) := by decide +kernel
theorem dX8_digestSteps_61 : decode cX8_digestSteps 61 = .ok (.iinc 6 1, 3) := by decide +kernel
theorem dX8_digestSteps_64 : decode cX8_digestSteps 64 = .ok (.goto (-50), 3) := by decide +kernel
theorem dX8_digestSteps_67 : decode cX8_digestSteps 67 = .ok (.iinc 5 1, 3) := by decide +kernel
theorem dX8_digestSteps_70 : decode cX8_digestSteps 70 = .ok (.goto (-65), 3) := by decide +kernel
theorem dX8_digestSteps_73 : decode cX8_digestSteps 73 = .ok (.lload_n 3, 1) := by decide +kernel
theorem dX8_digestSteps_74 : decode cX8_digestSteps 74 = .ok (.lreturn, 1) := by decide +kernel
set_option maxRecDepth 20000 in
theorem ggX8_digestEnds_X0_endsAt : GoodIn wsX8_digestEnds wsX0_endsAt := goodIn_r _ [7, 8, 9, 10, 11, 21, 22, 23, 24, 25, 26, 27, 28, 29] (by decide +kernel) (by decide +kernel)
set_option maxRecDepth 20000 in
theorem gX8_digestEnds_X0_endsAt : GoodIn wsX8_digestEnds (wsV RX8 153 RX0 yX0_endsAt wsX0_endsAt) := goodIn_app (goodIn_of _ (by decide +kernel)) ggX8_digestEnds_X0_endsAt
theorem dX8_digestEnds_0 : decode cX8_digestEnds 0 = .ok (.lload_n 1, 1) := by decide +kernel
theorem dX8_digestEnds_1 : decode cX8_digestEnds 1 = .ok (.lstore_n 3, 1) := by decide +kernel
theorem dX8_digestEnds_2 : decode cX8_digestEnds 2 = .ok (.iconst 0, 1) := by decide +kernel
theorem dX8_digestEnds_3 : decode cX8_digestEnds 3 = .ok (.istore 5, 2) := by decide +kernel
theorem dX8_digestEnds_5 : decode cX8_digestEnds 5 = .ok (.iload 5, 2) := by decide +kernel
theorem dX8_digestEnds_7 : decode cX8_digestEnds 7 = .ok (.sipush 10000, 3) := by decide +kernel
theorem dX8_digestEnds_10 : decode cX8_digestEnds 10 = .ok (.if_icmp .ge 31, 3) := by decide +kernel
theorem dX8_digestEnds_13 : decode cX8_digestEnds 13 = .ok (.aload_n 0, 1) := by decide +kernel
theorem dX8_digestEnds_14 : decode cX8_digestEnds 14 = .ok (.getfield 29, 3) := by decide +kernel
theorem dX8_digestEnds_17 : decode cX8_digestEnds 17 = .ok (.iload 5, 2) := by decide +kernel
theorem dX8_digestEnds_19 : decode cX8_digestEnds 19 = .ok (.invokevirtual 153, 3) := by decide +kernel
theorem dX8_digestEnds_22 : decode cX8_digestEnds 22 = .ok (.ifCond .eq 13, 3) := by decide +kernel
theorem dX8_digestEnds_25 : decode cX8_digestEnds 25 = .ok (.ldc2_w 223, 3) := by decide +kernel
theorem dX8_digestEnds_28 : decode cX8_digestEnds 28 = .ok (.lload_n 3, 1) := by decide +kernel
theorem dX8_digestEnds_29 : decode cX8_digestEnds 29 = .ok (.lmul, 1) := by decide +kernel
theorem dX8_digestEnds_30 : decode cX8_digestEnds 30 = .ok (.iload 5, 2) := by decide +kernel
theorem dX8_digestEnds_32 : decode cX8_digestEnds 32 = .ok (.i2l, 1) := by decide +kernel
theorem dX8_digestEnds_33 : decode cX8_digestEnds 33 = .ok (.ladd, 1) := by decide +kernel
theorem dX8_digestEnds_34 : decode cX8_digestEnds 34 = .ok (.lstore_n 3, 1) := by decide +kernel
theorem dX8_digestEnds_35 : decode cX8_digestEnds 35 = .ok (.iinc 5 1, 3) := by decide +kernel
theorem dX8_digestEnds_38 : decode cX8_digestEnds 38 = .ok (.goto (-33), 3) := by decide +kernel
theorem dX8_digestEnds_41 : decode cX8_digestEnds 41 = .ok (.lload_n 3, 1) := by decide +kernel
theorem dX8_digestEnds_42 : decode cX8_digestEnds 42 = .ok (.lreturn, 1) := by decide +kernel
theorem dX8_refused_0 : decode cX8_refused 0 = .ok (.iload_n 1, 1) := by decide +kernel
theorem dX8_refused_1 : decode cX8_refused 1 = .ok (.bipush (-2), 2) := by decide +kernel
theorem dX8_refused_3 : decode cX8_refused 3 = .ok (.if_icmp .ne 16, 3) := by decide +kernel
theorem dX8_refused_6 : decode cX8_refused 6 = .ok (.aload_n 0, 1) := by decide +kernel
theorem dX8_refused_7 : decode cX8_refused 7 = .ok (.dup, 1) := by decide +kernel
theorem dX8_refused_8 : decode cX8_refused 8 = .ok (.getfield 211, 3) := by decide +kernel
theorem dX8_refused_11 : decode cX8_refused 11 = .ok (.iconst 1, 1) := by decide +kernel
theorem dX8_refused_12 : decode cX8_refused 12 = .ok (.iadd, 1) := by decide +kernel
theorem dX8_refused_13 : decode cX8_refused 13 = .ok (.putfield 211, 3) := by decide +kernel
theorem dX8_refused_16 : decode cX8_refused 16 = .ok (.goto 32, 3) := by decide +kernel
theorem dX8_refused_19 : decode cX8_refused 19 = .ok (.iload_n 1, 1) := by decide +kernel
theorem dX8_refused_20 : decode cX8_refused 20 = .ok (.bipush (-3), 2) := by decide +kernel
theorem dX8_refused_22 : decode cX8_refused 22 = .ok (.if_icmp .ne 16, 3) := by decide +kernel
theorem dX8_refused_25 : decode cX8_refused 25 = .ok (.aload_n 0, 1) := by decide +kernel
theorem dX8_refused_26 : decode cX8_refused 26 = .ok (.dup, 1) := by decide +kernel
theorem dX8_refused_27 : decode cX8_refused 27 = .ok (.getfield 215, 3) := by decide +kernel
theorem dX8_refused_30 : decode cX8_refused 30 = .ok (.iconst 1, 1) := by decide +kernel
theorem dX8_refused_31 : decode cX8_refused 31 = .ok (.iadd, 1) := by decide +kernel
theorem dX8_refused_32 : decode cX8_refused 32 = .ok (.putfield 215, 3) := by decide +kernel
theorem dX8_refused_35 : decode cX8_refused 35 = .ok (.goto 13, 3) := by decide +kernel
theorem dX8_refused_38 : decode cX8_refused 38 = .ok (.aload_n 0, 1) := by decide +kernel
theorem dX8_refused_39 : decode cX8_refused 39 = .ok (.dup, 1) := by decide +kernel
theorem dX8_refused_40 : decode cX8_refused 40 = .ok (.getfield 218, 3) := by decide +kernel
theorem dX8_refused_43 : decode cX8_refused 43 = .ok (.iconst 1, 1) := by decide +kernel
theorem dX8_refused_44 : decode cX8_refused 44 = .ok (.iadd, 1) := by decide +kernel
theorem dX8_refused_45 : decode cX8_refused 45 = .ok (.putfield 218, 3) := by decide +kernel
theorem dX8_refused_48 : decode cX8_refused 48 = .ok (.iload_n 1, 1) := by decide +kernel
theorem dX8_refused_49 : decode cX8_refused 49 = .ok (.ireturn, 1) := by decide +kernel
theorem dX8_below_0 : decode cX8_below 0 = .ok (.iload_n 0, 1) := by decide +kernel
theorem dX8_below_1 : decode cX8_below 1 = .ok (.ifCond .lt 12, 3) := by decide +kernel
theorem dX8_below_4 : decode cX8_below 4 = .ok (.iload_n 0, 1) := by decide +kernel
theorem dX8_below_5 : decode cX8_below 5 = .ok (.iload_n 1, 1) := by decide +kernel
theorem dX8_below_6 : decode cX8_below 6 = .ok (.if_icmp .ge 7, 3) := by decide +kernel
theorem dX8_below_9 : decode cX8_below 9 = .ok (.iconst 1, 1) := by decide +kernel
theorem dX8_below_10 : decode cX8_below 10 = .ok (.goto 4, 3) := by decide +kernel
theorem dX8_below_13 : decode cX8_below 13 = .ok (.iconst 0, 1) := by decide +kernel
theorem dX8_below_14 : decode cX8_below 14 = .ok (.ireturn, 1) := by decide +kernel
theorem dX9_init_0 : decode cX9_init 0 = .ok (.aload_n 0, 1) := by decide +kernel
theorem dX9_init_1 : decode cX9_init 1 = .ok (.invokespecial 1, 3) := by decide +kernel
theorem dX9_init_4 : decode cX9_init 4 = .ok (.aload_n 0, 1) := by decide +kernel
theorem dX9_init_5 : decode cX9_init 5 = .ok (.bipush 56, 2) := by decide +kernel
theorem dX9_init_7 : decode cX9_init 7 = .ok (.newarray .int, 2) := by decide +kernel
theorem dX9_init_9 : decode cX9_init 9 = .ok (.putfield 7, 3) := by decide +kernel
theorem dX9_init_12 : decode cX9_init 12 = .ok (.aload_n 0, 1) := by decide +kernel
theorem dX9_init_13 : decode cX9_init 13 = .ok (.sipush 280, 3) := by decide +kernel
theorem dX9_init_16 : decode cX9_init 16 = .ok (.newarray .int, 2) := by decide +kernel
theorem dX9_init_18 : decode cX9_init 18 = .ok (.putfield 13, 3) := by decide +kernel
theorem dX9_init_21 : decode cX9_init 21 = .ok (.aload_n 0, 1) := by decide +kernel
theorem dX9_init_22 : decode cX9_init 22 = .ok (.iconst 3, 1) := by decide +kernel
theorem dX9_init_23 : decode cX9_init 23 = .ok (.newarray .int, 2) := by decide +kernel
theorem dX9_init_25 : decode cX9_init 25 = .ok (.putfield 16, 3) := by decide +kernel
theorem dX9_init_28 : decode cX9_init 28 = .ok (.aload_n 0, 1) := by decide +kernel
theorem dX9_init_29 : decode cX9_init 29 = .ok (.iconst 3, 1) := by decide +kernel
theorem dX9_init_30 : decode cX9_init 30 = .ok (.newarray .int, 2) := by decide +kernel
theorem dX9_init_32 : decode cX9_init 32 = .ok (.putfield 19, 3) := by decide +kernel
theorem dX9_init_35 : decode cX9_init 35 = .ok (.aload_n 0, 1) := by decide +kernel
theorem dX9_init_36 : decode cX9_init 36 = .ok (.bipush 12, 2) := by decide +kernel
theorem dX9_init_38 : decode cX9_init 38 = .ok (.newarray .int, 2) := by decide +kernel
theorem dX9_init_40 : decode cX9_init 40 = .ok (.putfield 22, 3) := by decide +kernel
theorem dX9_init_43 : decode cX9_init 43 = .ok (.aload_n 0, 1) := by decide +kernel
theorem dX9_init_44 : decode cX9_init 44 = .ok (.bipush 12, 2) := by decide +kernel
theorem dX9_init_46 : decode cX9_init 46 = .ok (.newarray .int, 2) := by decide +kernel
theorem dX9_init_48 : decode cX9_init 48 = .ok (.putfield 25, 3) := by decide +kernel
theorem dX9_init_51 : decode cX9_init 51 = .ok (.aload_n 0, 1) := by decide +kernel
theorem dX9_init_52 : decode cX9_init 52 = .ok (.bipush 13, 2) := by decide +kernel
theorem dX9_init_54 : decode cX9_init 54 = .ok (.newarray .int, 2) := by decide +kernel
theorem dX9_init_56 : decode cX9_init 56 = .ok (.putfield 28, 3) := by decide +kernel
theorem dX9_init_59 : decode cX9_init 59 = .ok (.aload_n 0, 1) := by decide +kernel
theorem dX9_init_60 : decode cX9_init 60 = .ok (.iconst 4, 1) := by decide +kernel
theorem dX9_init_61 : decode cX9_init 61 = .ok (.newarray .int, 2) := by decide +kernel
theorem dX9_init_63 : decode cX9_init 63 = .ok (.putfield 31, 3) := by decide +kernel
theorem dX9_init_66 : decode cX9_init 66 = .ok (.aload_n 0, 1) := by decide +kernel
theorem dX9_init_67 : decode cX9_init 67 = .ok (.sipush 10000, 3) := by decide +kernel
theorem dX9_init_70 : decode cX9_init 70 = .ok (.newarray .boolean, 2) := by decide +kernel
theorem dX9_init_72 : decode cX9_init 72 = .ok (.putfield 34, 3) := by decide +kernel
theorem dX9_init_75 : decode cX9_init 75 = .ok (.aload_n 0, 1) := by decide +kernel
theorem dX9_init_76 : decode cX9_init 76 = .ok (.iconst 4, 1) := by decide +kernel
theorem dX9_init_77 : decode cX9_init 77 = .ok (.newarray .int, 2) := by decide +kernel
theorem dX9_init_79 : decode cX9_init 79 = .ok (.putfield 38, 3) := by decide +kernel
theorem dX9_init_82 : decode cX9_init 82 = .ok (.aload_n 0, 1) := by decide +kernel
theorem dX9_init_83 : decode cX9_init 83 = .ok (.bipush 125, 2) := by decide +kernel
theorem dX9_init_85 : decode cX9_init 85 = .ok (.newarray .boolean, 2) := by decide +kernel
theorem dX9_init_87 : decode cX9_init 87 = .ok (.putfield 41, 3) := by decide +kernel
theorem dX9_init_90 : decode cX9_init 90 = .ok (.aload_n 0, 1) := by decide +kernel
theorem dX9_init_91 : decode cX9_init 91 = .ok (.bipush 12, 2) := by decide +kernel
theorem dX9_init_93 : decode cX9_init 93 = .ok (.newarray .int, 2) := by decide +kernel
theorem dX9_init_95 : decode cX9_init 95 = .ok (.putfield 44, 3) := by decide +kernel
theorem dX9_init_98 : decode cX9_init 98 = .ok (.aload_n 0, 1) := by decide +kernel
theorem dX9_init_99 : decode cX9_init 99 = .ok (.bipush 12, 2) := by decide +kernel
theorem dX9_init_101 : decode cX9_init 101 = .ok (.newarray .boolean, 2) := by decide +kernel
theorem dX9_init_103 : decode cX9_init 103 = .ok (.putfield 47, 3) := by decide +kernel
theorem dX9_init_106 : decode cX9_init 106 = .ok (.aload_n 0, 1) := by decide +kernel
theorem dX9_init_107 : decode cX9_init 107 = .ok (.bipush 12, 2) := by decide +kernel
theorem dX9_init_109 : decode cX9_init 109 = .ok (.newarray .int, 2) := by decide +kernel
theorem dX9_init_111 : decode cX9_init 111 = .ok (.putfield 50, 3) := by decide +kernel
theorem dX9_init_114 : decode cX9_init 114 = .ok (.aload_n 0, 1) := by decide +kernel
theorem dX9_init_115 : decode cX9_init 115 = .ok (.bipush 120, 2) := by decide +kernel
theorem dX9_init_117 : decode cX9_init 117 = .ok (.newarray .int, 2) := by decide +kernel
theorem dX9_init_119 : decode cX9_init 119 = .ok (.putfield 53, 3) := by decide +kernel
theorem dX9_init_122 : decode cX9_init 122 = .ok (.aload_n 0, 1) := by decide +kernel
theorem dX9_init_123 : decode cX9_init 123 = .ok (.iconst 3, 1) := by decide +kernel
theorem dX9_init_124 : decode cX9_init 124 = .ok (.newarray .int, 2) := by decide +kernel
theorem dX9_init_126 : decode cX9_init 126 = .ok (.putfield 56, 3) := by decide +kernel
theorem dX9_init_129 : decode cX9_init 129 = .ok (.aload_n 0, 1) := by decide +kernel
theorem dX9_init_130 : decode cX9_init 130 = .ok (.getfield 7, 3) := by decide +kernel
theorem dX9_init_133 : decode cX9_init 133 = .ok (.bipush 43, 2) := by decide +kernel
theorem dX9_init_135 : decode cX9_init 135 = .ok (.iconst 0, 1) := by decide +kernel
theorem dX9_init_136 : decode cX9_init 136 = .ok (.iastore, 1) := by decide +kernel
theorem dX9_init_137 : decode cX9_init 137 = .ok (.return_, 1) := by decide +kernel
theorem dX9_in_0 : decode cX9_in 0 = .ok (.lload_n 0, 1) := by decide +kernel
theorem dX9_in_1 : decode cX9_in 1 = .ok (.lload_n 2, 1) := by decide +kernel
theorem dX9_in_2 : decode cX9_in 2 = .ok (.lcmp, 1) := by decide +kernel
theorem dX9_in_3 : decode cX9_in 3 = .ok (.ifCond .lt 14, 3) := by decide +kernel
theorem dX9_in_6 : decode cX9_in 6 = .ok (.lload_n 0, 1) := by decide +kernel
theorem dX9_in_7 : decode cX9_in 7 = .ok (.lload 4, 2) := by decide +kernel
theorem dX9_in_9 : decode cX9_in 9 = .ok (.lcmp, 1) := by decide +kernel
theorem dX9_in_10 : decode cX9_in 10 = .ok (.ifCond .gt 7, 3) := by decide +kernel
theorem dX9_in_13 : decode cX9_in 13 = .ok (.iconst 1, 1) := by decide +kernel
theorem dX9_in_14 : decode cX9_in 14 = .ok (.goto 4, 3) := by decide +kernel
theorem dX9_in_17 : decode cX9_in 17 = .ok (.iconst 0, 1) := by decide +kernel
theorem dX9_in_18 : decode cX9_in 18 = .ok (.ireturn, 1) := by decide +kernel
theorem dX9_refuses_0 : decode cX9_refuses 0 = .ok (.aload_n 0, 1) := by decide +kernel
theorem dX9_refuses_1 : decode cX9_refuses 1 = .ok (.getfield 16, 3) := by decide +kernel
theorem dX9_refuses_4 : decode cX9_refuses 4 = .ok (.bipush (-2), 2) := by decide +kernel
theorem dX9_refuses_6 : decode cX9_refuses 6 = .ok (.iload_n 1, 1) := by decide +kernel
theorem dX9_refuses_7 : decode cX9_refuses 7 = .ok (.isub, 1) := by decide +kernel
theorem dX9_refuses_8 : decode cX9_refuses 8 = .ok (.dup2, 1) := by decide +kernel
theorem dX9_refuses_9 : decode cX9_refuses 9 = .ok (.iaload, 1) := by decide +kernel
theorem dX9_refuses_10 : decode cX9_refuses 10 = .ok (.iconst 1, 1) := by decide +kernel
theorem dX9_refuses_11 : decode cX9_refuses 11 = .ok (.iadd, 1) := by decide +kernel
theorem dX9_refuses_12 : decode cX9_refuses 12 = .ok (.iastore, 1) := by decide +kernel
theorem dX9_refuses_13 : decode cX9_refuses 13 = .ok (.iload_n 1, 1) := by decide +kernel
theorem dX9_refuses_14 : decode cX9_refuses 14 = .ok (.ireturn, 1) := by decide +kernel
theorem dX9_keep_0 : decode cX9_keep 0 = .ok (.aload_n 0, 1) := by decide +kernel
theorem dX9_keep_1 : decode cX9_keep 1 = .ok (.getfield 59, 3) := by decide +kernel
theorem dX9_keep_4 : decode cX9_keep 4 = .ok (.iconst 5, 1) := by decide +kernel
theorem dX9_keep_5 : decode cX9_keep 5 = .ok (.if_icmp .ne 43, 3) := by decide +kernel
theorem dX9_keep_8 : decode cX9_keep 8 = .ok (.iconst 0, 1) := by decide +kernel
theorem dX9_keep_9 : decode cX9_keep 9 = .ok (.istore_n 1, 1) := by decide +kernel
theorem dX9_keep_10 : decode cX9_keep 10 = .ok (.iload_n 1, 1) := by decide +kernel
theorem dX9_keep_11 : decode cX9_keep 11 = .ok (.sipush 224, 3) := by decide +kernel
theorem dX9_keep_14 : decode cX9_keep 14 = .ok (.if_icmp .ge 24, 3) := by decide +kernel
theorem dX9_keep_17 : decode cX9_keep 17 = .ok (.aload_n 0, 1) := by decide +kernel
theorem dX9_keep_18 : decode cX9_keep 18 = .ok (.getfield 13, 3) := by decide +kernel
theorem dX9_keep_21 : decode cX9_keep 21 = .ok (.iload_n 1, 1) := by decide +kernel
theorem dX9_keep_22 : decode cX9_keep 22 = .ok (.aload_n 0, 1) := by decide +kernel
theorem dX9_keep_23 : decode cX9_keep 23 = .ok (.getfield 13, 3) := by decide +kernel
theorem dX9_keep_26 : decode cX9_keep 26 = .ok (.iload_n 1, 1) := by decide +kernel
theorem dX9_keep_27 : decode cX9_keep 27 = .ok (.bipush 56, 2) := by decide +kernel
theorem dX9_keep_29 : decode cX9_keep 29 = .ok (.iadd, 1) := by decide +kernel
theorem dX9_keep_30 : decode cX9_keep 30 = .ok (.iaload, 1) := by decide +kernel
theorem dX9_keep_31 : decode cX9_keep 31 = .ok (.iastore, 1) := by decide +kernel
theorem dX9_keep_32 : decode cX9_keep 32 = .ok (.iinc 1 1, 3) := by decide +kernel
theorem dX9_keep_35 : decode cX9_keep 35 = .ok (.goto (-25), 3) := by decide +kernel
theorem dX9_keep_38 : decode cX9_keep 38 = .ok (.aload_n 0, 1) := by decide +kernel
theorem dX9_keep_39 : decode cX9_keep 39 = .ok (.dup, 1) := by decide +kernel
theorem dX9_keep_40 : decode cX9_keep 40 = .ok (.getfield 59, 3) := by decide +kernel
theorem dX9_keep_43 : decode cX9_keep 43 = .ok (.iconst 1, 1) := by decide +kernel
theorem dX9_keep_44 : decode cX9_keep 44 = .ok (.isub, 1) := by decide +kernel
theorem dX9_keep_45 : decode cX9_keep 45 = .ok (.putfield 59, 3) := by decide +kernel
theorem dX9_keep_48 : decode cX9_keep 48 = .ok (.iconst 0, 1) := by decide +kernel
theorem dX9_keep_49 : decode cX9_keep 49 = .ok (.istore_n 1, 1) := by decide +kernel
theorem dX9_keep_50 : decode cX9_keep 50 = .ok (.iload_n 1, 1) := by decide +kernel
theorem dX9_keep_51 : decode cX9_keep 51 = .ok (.bipush 56, 2) := by decide +kernel
theorem dX9_keep_53 : decode cX9_keep 53 = .ok (.if_icmp .ge 29, 3) := by decide +kernel
theorem dX9_keep_56 : decode cX9_keep 56 = .ok (.aload_n 0, 1) := by decide +kernel
theorem dX9_keep_57 : decode cX9_keep 57 = .ok (.getfield 13, 3) := by decide +kernel
theorem dX9_keep_60 : decode cX9_keep 60 = .ok (.bipush 56, 2) := by decide +kernel
theorem dX9_keep_62 : decode cX9_keep 62 = .ok (.aload_n 0, 1) := by decide +kernel
theorem dX9_keep_63 : decode cX9_keep 63 = .ok (.getfield 59, 3) := by decide +kernel
theorem dX9_keep_66 : decode cX9_keep 66 = .ok (.imul, 1) := by decide +kernel
theorem dX9_keep_67 : decode cX9_keep 67 = .ok (.iload_n 1, 1) := by decide +kernel
theorem dX9_keep_68 : decode cX9_keep 68 = .ok (.iadd, 1) := by decide +kernel
theorem dX9_keep_69 : decode cX9_keep 69 = .ok (.aload_n 0, 1) := by decide +kernel
theorem dX9_keep_70 : decode cX9_keep 70 = .ok (.getfield 7, 3) := by decide +kernel
theorem dX9_keep_73 : decode cX9_keep 73 = .ok (.iload_n 1, 1) := by decide +kernel
theorem dX9_keep_74 : decode cX9_keep 74 = .ok (.iaload, 1) := by decide +kernel
theorem dX9_keep_75 : decode cX9_keep 75 = .ok (.iastore, 1) := by decide +kernel
theorem dX9_keep_76 : decode cX9_keep 76 = .ok (.iinc 1 1, 3) := by decide +kernel
theorem dX9_keep_79 : decode cX9_keep 79 = .ok (.goto (-29), 3) := by decide +kernel
theorem dX9_keep_82 : decode cX9_keep 82 = .ok (.aload_n 0, 1) := by decide +kernel
theorem dX9_keep_83 : decode cX9_keep 83 = .ok (.dup, 1) := by decide +kernel
theorem dX9_keep_84 : decode cX9_keep 84 = .ok (.getfield 59, 3) := by decide +kernel
theorem dX9_keep_87 : decode cX9_keep 87 = .ok (.iconst 1, 1) := by decide +kernel
theorem dX9_keep_88 : decode cX9_keep 88 = .ok (.iadd, 1) := by decide +kernel
theorem dX9_keep_89 : decode cX9_keep 89 = .ok (.putfield 59, 3) := by decide +kernel
theorem dX9_keep_92 : decode cX9_keep 92 = .ok (.return_, 1) := by decide +kernel
theorem dX9_many_0 : decode cX9_many 0 = .ok (.aload_n 0, 1) := by decide +kernel
theorem dX9_many_1 : decode cX9_many 1 = .ok (.getfield 7, 3) := by decide +kernel
theorem dX9_many_4 : decode cX9_many 4 = .ok (.bipush 36, 2) := by decide +kernel
theorem dX9_many_6 : decode cX9_many 6 = .ok (.iload_n 1, 1) := by decide +kernel
theorem dX9_many_7 : decode cX9_many 7 = .ok (.iadd, 1) := by decide +kernel
theorem dX9_many_8 : decode cX9_many 8 = .ok (.iaload, 1) := by decide +kernel
theorem dX9_many_9 : decode cX9_many 9 = .ok (.ireturn, 1) := by decide +kernel
theorem dX9_its_0 : decode cX9_its 0 = .ok (.aload_n 0, 1) := by decide +kernel
theorem dX9_its_1 : decode cX9_its 1 = .ok (.getfield 7, 3) := by decide +kernel
theorem dX9_its_4 : decode cX9_its 4 = .ok (.bipush 12, 2) := by decide +kernel
theorem dX9_its_6 : decode cX9_its 6 = .ok (.iload_n 1, 1) := by decide +kernel
theorem dX9_its_7 : decode cX9_its 7 = .ok (.imul, 1) := by decide +kernel
theorem dX9_its_8 : decode cX9_its 8 = .ok (.iconst 3, 1) := by decide +kernel
theorem dX9_its_9 : decode cX9_its 9 = .ok (.iload_n 2, 1) := by decide +kernel
theorem dX9_its_10 : decode cX9_its 10 = .ok (.imul, 1) := by decide +kernel
theorem dX9_its_11 : decode cX9_its 11 = .ok (.iadd, 1) := by decide +kernel
theorem dX9_its_12 : decode cX9_its 12 = .ok (.iload_n 3, 1) := by decide +kernel
theorem dX9_its_13 : decode cX9_its 13 = .ok (.iadd, 1) := by decide +kernel
theorem dX9_its_14 : decode cX9_its 14 = .ok (.iaload, 1) := by decide +kernel
theorem dX9_its_15 : decode cX9_its 15 = .ok (.ireturn, 1) := by decide +kernel
set_option maxRecDepth 20000 in
theorem ggX9_isTold_X9_in : GoodIn wsX9_isTold wsX9_in := goodIn_r _ [7] (by decide +kernel) (by decide +kernel)
set_option maxRecDepth 20000 in
theorem gX9_isTold_X9_in : GoodIn wsX9_isTold (va_wsS RX9 65 yX9_in wsX9_in) := goodIn_app (goodIn_of _ (by decide +kernel)) ggX9_isTold_X9_in
theorem dX9_isTold_0 : decode cX9_isTold 0 = .ok (.iload_n 0, 1) := by decide +kernel
theorem dX9_isTold_1 : decode cX9_isTold 1 = .ok (.iconst 4, 1) := by decide +kernel
theorem dX9_isTold_2 : decode cX9_isTold 2 = .ok (.if_icmp .eq 8, 3) := by decide +kernel
theorem dX9_isTold_5 : decode cX9_isTold 5 = .ok (.iload_n 0, 1) := by decide +kernel
theorem dX9_isTold_6 : decode cX9_isTold 6 = .ok (.iconst 5, 1) := by decide +kernel
theorem dX9_isTold_7 : decode cX9_isTold 7 = .ok (.if_icmp .ne 7, 3) := by decide +kernel
theorem dX9_isTold_10 : decode cX9_isTold 10 = .ok (.iconst 1, 1) := by decide +kernel
theorem dX9_isTold_11 : decode cX9_isTold 11 = .ok (.goto 4, 3) := by decide +kernel
theorem dX9_isTold_14 : decode cX9_isTold 14 = .ok (.iconst 0, 1) := by decide +kernel
theorem dX9_isTold_15 : decode cX9_isTold 15 = .ok (.istore_n 3, 1) := by decide +kernel
theorem dX9_isTold_16 : decode cX9_isTold 16 = .ok (.iload_n 0, 1) := by decide +kernel
theorem dX9_isTold_17 : decode cX9_isTold 17 = .ok (.i2l, 1) := by decide +kernel
theorem dX9_isTold_18 : decode cX9_isTold 18 = .ok (.lconst 0, 1) := by decide +kernel
theorem dX9_isTold_19 : decode cX9_isTold 19 = .ok (.ldc2_w 63, 3) := by decide +kernel
theorem dX9_isTold_22 : decode cX9_isTold 22 = .ok (.invokestatic 65, 3) := by decide +kernel
theorem dX9_isTold_25 : decode cX9_isTold 25 = .ok (.ifCond .eq 58, 3) := by decide +kernel
theorem dX9_isTold_28 : decode cX9_isTold 28 = .ok (.iload_n 1, 1) := by decide +kernel
theorem dX9_isTold_29 : decode cX9_isTold 29 = .ok (.i2l, 1) := by decide +kernel
theorem dX9_isTold_30 : decode cX9_isTold 30 = .ok (.lconst 0, 1) := by decide +kernel
theorem dX9_isTold_31 : decode cX9_isTold 31 = .ok (.iload_n 3, 1) := by decide +kernel
theorem dX9_isTold_32 : decode cX9_isTold 32 = .ok (.ifCond .eq 7, 3) := by decide +kernel
theorem dX9_isTold_35 : decode cX9_isTold 35 = .ok (.lconst 1, 1) := by decide +kernel
theorem dX9_isTold_36 : decode cX9_isTold 36 = .ok (.goto 6, 3) := by decide +kernel
theorem dX9_isTold_39 : decode cX9_isTold 39 = .ok (.ldc2_w 69, 3) := by decide +kernel
theorem dX9_isTold_42 : decode cX9_isTold 42 = .ok (.invokestatic 65, 3) := by decide +kernel
theorem dX9_isTold_45 : decode cX9_isTold 45 = .ok (.ifCond .eq 38, 3) := by decide +kernel
theorem dX9_isTold_48 : decode cX9_isTold 48 = .ok (.iload_n 2, 1) := by decide +kernel
theorem dX9_isTold_49 : decode cX9_isTold 49 = .ok (.i2l, 1) := by decide +kernel
theorem dX9_isTold_50 : decode cX9_isTold 50 = .ok (.lconst 0, 1) := by decide +kernel
theorem dX9_isTold_51 : decode cX9_isTold 51 = .ok (.iload_n 3, 1) := by decide +kernel
theorem dX9_isTold_52 : decode cX9_isTold 52 = .ok (.ifCond .eq 7, 3) := by decide +kernel
theorem dX9_isTold_55 : decode cX9_isTold 55 = .ok (.lconst 0, 1) := by decide +kernel
theorem dX9_isTold_56 : decode cX9_isTold 56 = .ok (.goto 17, 3) := by decide +kernel
theorem dX9_isTold_59 : decode cX9_isTold 59 = .ok (.iload_n 0, 1) := by decide +kernel
theorem dX9_isTold_60 : decode cX9_isTold 60 = .ok (.iconst 2, 1) := by decide +kernel
theorem dX9_isTold_61 : decode cX9_isTold 61 = .ok (.if_icmp .ne 9, 3) := by decide +kernel
theorem dX9_isTold_64 : decode cX9_isTold 64 = .ok (.ldc2_w 69, 3) := by decide +kernel
theorem dX9_isTold_67 : decode cX9_isTold 67 = .ok (.goto 6, 3) := by decide +kernel
theorem dX9_isTold_70 : decode cX9_isTold 70 = .ok (.ldc2_w 71, 3) := by decide +kernel
theorem dX9_isTold_73 : decode cX9_isTold 73 = .ok (.invokestatic 65, 3) := by decide +kernel
theorem dX9_isTold_76 : decode cX9_isTold 76 = .ok (.ifCond .eq 7, 3) := by decide +kernel
theorem dX9_isTold_79 : decode cX9_isTold 79 = .ok (.iconst 1, 1) := by decide +kernel
theorem dX9_isTold_80 : decode cX9_isTold 80 = .ok (.goto 4, 3) := by decide +kernel
theorem dX9_isTold_83 : decode cX9_isTold 83 = .ok (.iconst 0, 1) := by decide +kernel
theorem dX9_isTold_84 : decode cX9_isTold 84 = .ok (.ireturn, 1) := by decide +kernel
set_option maxRecDepth 20000 in
theorem ggX9_lays_X9_many : GoodIn wsX9_lays wsX9_many := goodIn_r _ [6, 1, 7, 8, 9, 10, 11, 12, 13, 14, 15, 16, 17, 18, 19, 20, 21, 22, 23, 24, 25, 26, 27, 28] (by decide +kernel) (by decide +kernel)
set_option maxRecDepth 20000 in
theorem gX9_lays_X9_many : GoodIn wsX9_lays (wsV RX9 73 RX9 yX9_many wsX9_many) := goodIn_app (goodIn_of _ (by decide +kernel)) ggX9_lays_X9_many
theorem dX9_lays_0 : decode cX9_lays 0 = .ok (.bipush 12, 2) := by decide +kernel
theorem dX9_lays_2 : decode cX9_lays 2 = .ok (.iload_n 1, 1) := by decide +kernel
theorem dX9_lays_3 : decode cX9_lays 3 = .ok (.imul, 1) := by decide +kernel
theorem dX9_lays_4 : decode cX9_lays 4 = .ok (.iconst 3, 1) := by decide +kernel
theorem dX9_lays_5 : decode cX9_lays 5 = .ok (.aload_n 0, 1) := by decide +kernel
theorem dX9_lays_6 : decode cX9_lays 6 = .ok (.iload_n 1, 1) := by decide +kernel
theorem dX9_lays_7 : decode cX9_lays 7 = .ok (.invokevirtual 73, 3) := by decide +kernel
theorem dX9_lays_10 : decode cX9_lays 10 = .ok (.imul, 1) := by decide +kernel
theorem dX9_lays_11 : decode cX9_lays 11 = .ok (.iadd, 1) := by decide +kernel
theorem dX9_lays_12 : decode cX9_lays 12 = .ok (.istore 5, 2) := by decide +kernel
theorem dX9_lays_14 : decode cX9_lays 14 = .ok (.aload_n 0, 1) := by decide +kernel
theorem dX9_lays_15 : decode cX9_lays 15 = .ok (.getfield 7, 3) := by decide +kernel
theorem dX9_lays_18 : decode cX9_lays 18 = .ok (.iload 5, 2) := by decide +kernel
theorem dX9_lays_20 : decode cX9_lays 20 = .ok (.iload_n 2, 1) := by decide +kernel
theorem dX9_lays_21 : decode cX9_lays 21 = .ok (.iastore, 1) := by decide +kernel
theorem dX9_lays_22 : decode cX9_lays 22 = .ok (.aload_n 0, 1) := by decide +kernel
theorem dX9_lays_23 : decode cX9_lays 23 = .ok (.getfield 7, 3) := by decide +kernel
theorem dX9_lays_26 : decode cX9_lays 26 = .ok (.iload 5, 2) := by decide +kernel
theorem dX9_lays_28 : decode cX9_lays 28 = .ok (.iconst 1, 1) := by decide +kernel
theorem dX9_lays_29 : decode cX9_lays 29 = .ok (.iadd, 1) := by decide +kernel
theorem dX9_lays_30 : decode cX9_lays 30 = .ok (.iload_n 3, 1) := by decide +kernel
theorem dX9_lays_31 : decode cX9_lays 31 = .ok (.iastore, 1) := by decide +kernel
theorem dX9_lays_32 : decode cX9_lays 32 = .ok (.aload_n 0, 1) := by decide +kernel
theorem dX9_lays_33 : decode cX9_lays 33 = .ok (.getfield 7, 3) := by decide +kernel
theorem dX9_lays_36 : decode cX9_lays 36 = .ok (.iload 5, 2) := by decide +kernel
theorem dX9_lays_38 : decode cX9_lays 38 = .ok (.iconst 2, 1) := by decide +kernel
theorem dX9_lays_39 : decode cX9_lays 39 = .ok (.iadd, 1) := by decide +kernel
theorem dX9_lays_40 : decode cX9_lays 40 = .ok (.iload 4, 2) := by decide +kernel
theorem dX9_lays_42 : decode cX9_lays 42 = .ok (.iastore, 1) := by decide +kernel
theorem dX9_lays_43 : decode cX9_lays 43 = .ok (.aload_n 0, 1) := by decide +kernel
theorem dX9_lays_44 : decode cX9_lays 44 = .ok (.getfield 7, 3) := by decide +kernel
theorem dX9_lays_47 : decode cX9_lays 47 = .ok (.bipush 36, 2) := by decide +kernel
theorem dX9_lays_49 : decode cX9_lays 49 = .ok (.iload_n 1, 1) := by decide +kernel
theorem dX9_lays_50 : decode cX9_lays 50 = .ok (.iadd, 1) := by decide +kernel
theorem dX9_lays_51 : decode cX9_lays 51 = .ok (.dup2, 1) := by decide +kernel
theorem dX9_lays_52 : decode cX9_lays 52 = .ok (.iaload, 1) := by decide +kernel
theorem dX9_lays_53 : decode cX9_lays 53 = .ok (.iconst 1, 1) := by decide +kernel
theorem dX9_lays_54 : decode cX9_lays 54 = .ok (.iadd, 1) := by decide +kernel
theorem dX9_lays_55 : decode cX9_lays 55 = .ok (.iastore, 1) := by decide +kernel
theorem dX9_lays_56 : decode cX9_lays 56 = .ok (.aload_n 0, 1) := by decide +kernel
theorem dX9_lays_57 : decode cX9_lays 57 = .ok (.getfield 7, 3) := by decide +kernel
theorem dX9_lays_60 : decode cX9_lays 60 = .ok (.bipush 43, 2) := by decide +kernel
theorem dX9_lays_62 : decode cX9_lays 62 = .ok (.iconst 0, 1) := by decide +kernel
theorem dX9_lays_63 : decode cX9_lays 63 = .ok (.iastore, 1) := by decide +kernel
theorem dX9_lays_64 : decode cX9_lays 64 = .ok (.return_, 1) := by decide +kernel
set_option maxRecDepth 20000 in
theorem ggX9_isThread_X9_in : GoodIn wsX9_isThread wsX9_in := goodIn_r _ [5] (by decide +kernel) (by decide +kernel)
set_option maxRecDepth 20000 in
theorem gX9_isThread_X9_in : GoodIn wsX9_isThread (va_wsS RX9 65 yX9_in wsX9_in) := goodIn_app (goodIn_of _ (by decide +kernel)) ggX9_isThread_X9_in
theorem dX9_isThread_0 : decode cX9_isThread 0 = .ok (.iload_n 0, 1) := by decide +kernel
theorem dX9_isThread_1 : decode cX9_isThread 1 = .ok (.i2l, 1) := by decide +kernel
theorem dX9_isThread_2 : decode cX9_isThread 2 = .ok (.lconst 0, 1) := by decide +kernel
theorem dX9_isThread_3 : decode cX9_isThread 3 = .ok (.ldc2_w 77, 3) := by decide +kernel
theorem dX9_isThread_6 : decode cX9_isThread 6 = .ok (.invokestatic 65, 3) := by decide +kernel
theorem dX9_isThread_9 : decode cX9_isThread 9 = .ok (.ireturn, 1) := by decide +kernel
set_option maxRecDepth 20000 in
theorem ggX9_step_X9_isThread : GoodIn wsX9_step wsX9_isThread := goodIn_r _ [4, 5, 6, 7, 3, 8] (by decide +kernel) (by decide +kernel)
set_option maxRecDepth 20000 in
theorem gX9_step_X9_isThread : GoodIn wsX9_step (va_wsS RX9 79 yX9_isThread wsX9_isThread) := goodIn_app (goodIn_of _ (by decide +kernel)) ggX9_step_X9_isThread
set_option maxRecDepth 20000 in
theorem ggX9_step_X9_isTold : GoodIn wsX9_step wsX9_isTold := goodIn_r _ [11, 12, 13, 14, 6, 7, 3, 8] (by decide +kernel) (by decide +kernel)
set_option maxRecDepth 20000 in
theorem gX9_step_X9_isTold : GoodIn wsX9_step (va_wsS RX9 83 yX9_isTold wsX9_isTold) := goodIn_app (goodIn_of _ (by decide +kernel)) ggX9_step_X9_isTold
set_option maxRecDepth 20000 in
theorem ggX9_step_X9_refuses : GoodIn wsX9_step wsX9_refuses := goodIn_r _ [18, 19, 35, 36, 37, 38, 39, 40, 41, 42, 43, 44, 45, 46, 47, 48, 49, 50, 51, 52, 53, 54, 55, 56] (by decide +kernel) (by decide +kernel)
set_option maxRecDepth 20000 in
theorem gX9_step_X9_refuses : GoodIn wsX9_step (wsV RX9 87 RX9 yX9_refuses wsX9_refuses) := goodIn_app (goodIn_of _ (by decide +kernel)) ggX9_step_X9_refuses
set_option maxRecDepth 20000 in
theorem ggX9_step_X9_many : GoodIn wsX9_step wsX9_many := goodIn_r _ [23, 24, 35, 36, 37, 38, 39, 40, 41, 42, 43, 44, 45, 46, 47, 48, 49, 50, 51, 52, 53, 54, 55, 56] (by decide +kernel) (by decide +kernel)
set_option maxRecDepth 20000 in
theorem gX9_step_X9_many : GoodIn wsX9_step (wsV RX9 73 RX9 yX9_many wsX9_many) := goodIn_app (goodIn_of _ (by decide +kernel)) ggX9_step_X9_many
set_option maxRecDepth 20000 in
theorem ggX9_step_X9_keep : GoodIn wsX9_step wsX9_keep := goodIn_r _ [28, 29, 30, 24, 35, 36, 37, 38, 39, 40, 41, 42, 43, 44, 45, 46, 47, 48, 49, 50, 51, 52, 53, 54, 55, 56] (by decide +kernel) (by decide +kernel)
set_option maxRecDepth 20000 in
theorem gX9_step_X9_keep : GoodIn wsX9_step (wsV RX9 90 RX9 yX9_keep wsX9_keep) := goodIn_app (goodIn_of _ (by decide +kernel)) ggX9_step_X9_keep
set_option maxRecDepth 20000 in
theorem ggX9_step_X9_lays : GoodIn wsX9_step wsX9_lays := goodIn_r _ [34, 24, 20, 21, 22, 3, 23, 35, 36, 37, 38, 39, 40, 41, 42, 43, 44, 45, 46, 47, 48, 49, 50, 51, 52, 53, 54, 55, 56] (by decide +kernel) (by decide +kernel)
set_option maxRecDepth 20000 in
theorem gX9_step_X9_lays : GoodIn wsX9_step (wsV RX9 93 RX9 yX9_lays wsX9_lays) := goodIn_app (goodIn_of _ (by decide +kernel)) ggX9_step_X9_lays
theorem dX9_step_0 : decode cX9_step 0 = .ok (.iload_n 1, 1) := by decide +kernel
theorem dX9_step_1 : decode cX9_step 1 = .ok (.invokestatic 79, 3) := by decide +kernel
theorem dX9_step_4 : decode cX9_step 4 = .ok (.ifCond .eq 13, 3) := by decide +kernel
theorem dX9_step_7 : decode cX9_step 7 = .ok (.iload_n 2, 1) := by decide +kernel
theorem dX9_step_8 : decode cX9_step 8 = .ok (.iload_n 3, 1) := by decide +kernel
theorem dX9_step_9 : decode cX9_step 9 = .ok (.iload 4, 2) := by decide +kernel
theorem dX9_step_11 : decode cX9_step 11 = .ok (.invokestatic 83, 3) := by decide +kernel
theorem dX9_step_14 : decode cX9_step 14 = .ok (.ifCond .ne 10, 3) := by decide +kernel
theorem dX9_step_17 : decode cX9_step 17 = .ok (.aload_n 0, 1) := by decide +kernel
theorem dX9_step_18 : decode cX9_step 18 = .ok (.bipush (-2), 2) := by decide +kernel
theorem dX9_step_20 : decode cX9_step 20 = .ok (.invokevirtual 87, 3) := by decide +kernel
theorem dX9_step_23 : decode cX9_step 23 = .ok (.ireturn, 1) := by decide +kernel
theorem dX9_step_24 : decode cX9_step 24 = .ok (.aload_n 0, 1) := by decide +kernel
theorem dX9_step_25 : decode cX9_step 25 = .ok (.iload_n 1, 1) := by decide +kernel
theorem dX9_step_26 : decode cX9_step 26 = .ok (.invokevirtual 73, 3) := by decide +kernel
theorem dX9_step_29 : decode cX9_step 29 = .ok (.iconst 4, 1) := by decide +kernel
theorem dX9_step_30 : decode cX9_step 30 = .ok (.if_icmp .ne 10, 3) := by decide +kernel
theorem dX9_step_33 : decode cX9_step 33 = .ok (.aload_n 0, 1) := by decide +kernel
theorem dX9_step_34 : decode cX9_step 34 = .ok (.bipush (-4), 2) := by decide +kernel
theorem dX9_step_36 : decode cX9_step 36 = .ok (.invokevirtual 87, 3) := by decide +kernel
theorem dX9_step_39 : decode cX9_step 39 = .ok (.ireturn, 1) := by decide +kernel
theorem dX9_step_40 : decode cX9_step 40 = .ok (.aload_n 0, 1) := by decide +kernel
theorem dX9_step_41 : decode cX9_step 41 = .ok (.invokevirtual 90, 3) := by decide +kernel
theorem dX9_step_44 : decode cX9_step 44 = .ok (.aload_n 0, 1) := by decide +kernel
theorem dX9_step_45 : decode cX9_step 45 = .ok (.iload_n 1, 1) := by decide +kernel
theorem dX9_step_46 : decode cX9_step 46 = .ok (.iload_n 2, 1) := by decide +kernel
theorem dX9_step_47 : decode cX9_step 47 = .ok (.iload_n 3, 1) := by decide +kernel
theorem dX9_step_48 : decode cX9_step 48 = .ok (.iload 4, 2) := by decide +kernel
theorem dX9_step_50 : decode cX9_step 50 = .ok (.invokevirtual 93, 3) := by decide +kernel
theorem dX9_step_53 : decode cX9_step 53 = .ok (.aload_n 0, 1) := by decide +kernel
theorem dX9_step_54 : decode cX9_step 54 = .ok (.iload_n 1, 1) := by decide +kernel
theorem dX9_step_55 : decode cX9_step 55 = .ok (.invokevirtual 73, 3) := by decide +kernel
theorem dX9_step_58 : decode cX9_step 58 = .ok (.iconst 1, 1) := by decide +kernel
theorem dX9_step_59 : decode cX9_step 59 = .ok (.isub, 1) := by decide +kernel
theorem dX9_step_60 : decode cX9_step 60 = .ok (.ireturn, 1) := by decide +kernel
set_option maxRecDepth 20000 in
theorem ggX9_drops_X9_isThread : GoodIn wsX9_drops wsX9_isThread := goodIn_r _ [5, 6, 7, 8, 4, 9] (by decide +kernel) (by decide +kernel)
set_option maxRecDepth 20000 in
theorem gX9_drops_X9_isThread : GoodIn wsX9_drops (va_wsS RX9 79 yX9_isThread wsX9_isThread) := goodIn_app (goodIn_of _ (by decide +kernel)) ggX9_drops_X9_isThread
set_option maxRecDepth 20000 in
theorem ggX9_drops_X9_refuses : GoodIn wsX9_drops wsX9_refuses := goodIn_r _ [13, 14, 25, 26, 27, 28, 29, 30, 31, 32, 33, 34, 35, 36, 37, 38, 39, 40, 41, 42, 43, 44, 45, 46] (by decide +kernel) (by decide +kernel)
set_option maxRecDepth 20000 in
theorem gX9_drops_X9_refuses : GoodIn wsX9_drops (wsV RX9 87 RX9 yX9_refuses wsX9_refuses) := goodIn_app (goodIn_of _ (by decide +kernel)) ggX9_drops_X9_refuses
set_option maxRecDepth 20000 in
theorem ggX9_drops_X9_many : GoodIn wsX9_drops wsX9_many := goodIn_r _ [18, 1, 25, 26, 27, 28, 29, 30, 31, 32, 33, 34, 35, 36, 37, 38, 39, 40, 41, 42, 43, 44, 45, 46] (by decide +kernel) (by decide +kernel)
set_option maxRecDepth 20000 in
theorem gX9_drops_X9_many : GoodIn wsX9_drops (wsV RX9 73 RX9 yX9_many wsX9_many) := goodIn_app (goodIn_of _ (by decide +kernel)) ggX9_drops_X9_many
set_option maxRecDepth 20000 in
theorem ggX9_drops_X9_keep : GoodIn wsX9_drops wsX9_keep := goodIn_r _ [22, 23, 24, 1, 25, 26, 27, 28, 29, 30, 31, 32, 33, 34, 35, 36, 37, 38, 39, 40, 41, 42, 43, 44, 45, 46] (by decide +kernel) (by decide +kernel)
set_option maxRecDepth 20000 in
theorem gX9_drops_X9_keep : GoodIn wsX9_drops (wsV RX9 90 RX9 yX9_keep wsX9_keep) := goodIn_app (goodIn_of _ (by decide +kernel)) ggX9_drops_X9_keep
theorem dX9_drops_0 : decode cX9_drops 0 = .ok (.iload_n 1, 1) := by decide +kernel
theorem dX9_drops_1 : decode cX9_drops 1 = .ok (.invokestatic 79, 3) := by decide +kernel
theorem dX9_drops_4 : decode cX9_drops 4 = .ok (.ifCond .ne 10, 3) := by decide +kernel
theorem dX9_drops_7 : decode cX9_drops 7 = .ok (.aload_n 0, 1) := by decide +kernel
theorem dX9_drops_8 : decode cX9_drops 8 = .ok (.bipush (-2), 2) := by decide +kernel
theorem dX9_drops_10 : decode cX9_drops 10 = .ok (.invokevirtual 87, 3) := by decide +kernel
theorem dX9_drops_13 : decode cX9_drops 13 = .ok (.ireturn, 1) := by decide +kernel
theorem dX9_drops_14 : decode cX9_drops 14 = .ok (.aload_n 0, 1) := by decide +kernel
theorem dX9_drops_15 : decode cX9_drops 15 = .ok (.iload_n 1, 1) := by decide +kernel
theorem dX9_drops_16 : decode cX9_drops 16 = .ok (.invokevirtual 73, 3) := by decide +kernel
theorem dX9_drops_19 : decode cX9_drops 19 = .ok (.ifCond .ne 10, 3) := by decide +kernel
theorem dX9_drops_22 : decode cX9_drops 22 = .ok (.aload_n 0, 1) := by decide +kernel
theorem dX9_drops_23 : decode cX9_drops 23 = .ok (.bipush (-3), 2) := by decide +kernel
theorem dX9_drops_25 : decode cX9_drops 25 = .ok (.invokevirtual 87, 3) := by decide +kernel
theorem dX9_drops_28 : decode cX9_drops 28 = .ok (.ireturn, 1) := by decide +kernel
theorem dX9_drops_29 : decode cX9_drops 29 = .ok (.aload_n 0, 1) := by decide +kernel
theorem dX9_drops_30 : decode cX9_drops 30 = .ok (.invokevirtual 90, 3) := by decide +kernel
theorem dX9_drops_33 : decode cX9_drops 33 = .ok (.aload_n 0, 1) := by decide +kernel
theorem dX9_drops_34 : decode cX9_drops 34 = .ok (.getfield 7, 3) := by decide +kernel
theorem dX9_drops_37 : decode cX9_drops 37 = .ok (.bipush 36, 2) := by decide +kernel
theorem dX9_drops_39 : decode cX9_drops 39 = .ok (.iload_n 1, 1) := by decide +kernel
theorem dX9_drops_40 : decode cX9_drops 40 = .ok (.iadd, 1) := by decide +kernel
theorem dX9_drops_41 : decode cX9_drops 41 = .ok (.dup2, 1) := by decide +kernel
theorem dX9_drops_42 : decode cX9_drops 42 = .ok (.iaload, 1) := by decide +kernel
theorem dX9_drops_43 : decode cX9_drops 43 = .ok (.iconst 1, 1) := by decide +kernel
theorem dX9_drops_44 : decode cX9_drops 44 = .ok (.isub, 1) := by decide +kernel
theorem dX9_drops_45 : decode cX9_drops 45 = .ok (.iastore, 1) := by decide +kernel
theorem dX9_drops_46 : decode cX9_drops 46 = .ok (.aload_n 0, 1) := by decide +kernel
theorem dX9_drops_47 : decode cX9_drops 47 = .ok (.getfield 7, 3) := by decide +kernel
theorem dX9_drops_50 : decode cX9_drops 50 = .ok (.bipush 43, 2) := by decide +kernel
theorem dX9_drops_52 : decode cX9_drops 52 = .ok (.iconst 0, 1) := by decide +kernel
theorem dX9_drops_53 : decode cX9_drops 53 = .ok (.iastore, 1) := by decide +kernel
theorem dX9_drops_54 : decode cX9_drops 54 = .ok (.aload_n 0, 1) := by decide +kernel
theorem dX9_drops_55 : decode cX9_drops 55 = .ok (.iload_n 1, 1) := by decide +kernel
theorem dX9_drops_56 : decode cX9_drops 56 = .ok (.invokevirtual 73, 3) := by decide +kernel
theorem dX9_drops_59 : decode cX9_drops 59 = .ok (.ireturn, 1) := by decide +kernel
set_option maxRecDepth 20000 in
theorem ggX9_number_X9_in : GoodIn wsX9_number wsX9_in := goodIn_r _ [7] (by decide +kernel) (by decide +kernel)
set_option maxRecDepth 20000 in
theorem gX9_number_X9_in : GoodIn wsX9_number (va_wsS RX9 65 yX9_in wsX9_in) := goodIn_app (goodIn_of _ (by decide +kernel)) ggX9_number_X9_in
set_option maxRecDepth 20000 in
theorem ggX9_number_X9_refuses : GoodIn wsX9_number wsX9_refuses := goodIn_r _ [11, 12, 19, 20, 21, 22, 23, 24, 25, 26, 27, 28, 29, 30, 31, 32, 33, 34, 35, 36, 37, 38, 39, 40] (by decide +kernel) (by decide +kernel)
set_option maxRecDepth 20000 in
theorem gX9_number_X9_refuses : GoodIn wsX9_number (wsV RX9 87 RX9 yX9_refuses wsX9_refuses) := goodIn_app (goodIn_of _ (by decide +kernel)) ggX9_number_X9_refuses
set_option maxRecDepth 20000 in
theorem ggX9_number_X9_keep : GoodIn wsX9_number wsX9_keep := goodIn_r _ [16, 17, 18, 3, 19, 20, 21, 22, 23, 24, 25, 26, 27, 28, 29, 30, 31, 32, 33, 34, 35, 36, 37, 38, 39, 40] (by decide +kernel) (by decide +kernel)
set_option maxRecDepth 20000 in
theorem gX9_number_X9_keep : GoodIn wsX9_number (wsV RX9 90 RX9 yX9_keep wsX9_keep) := goodIn_app (goodIn_of _ (by decide +kernel)) ggX9_number_X9_keep
theorem dX9_number_0 : decode cX9_number 0 = .ok (.iload_n 1, 1) := by decide +kernel
theorem dX9_number_1 : decode cX9_number 1 = .ok (.i2l, 1) := by decide +kernel
theorem dX9_number_2 : decode cX9_number 2 = .ok (.lconst 0, 1) := by decide +kernel
theorem dX9_number_3 : decode cX9_number 3 = .ok (.ldc2_w 69, 3) := by decide +kernel
theorem dX9_number_6 : decode cX9_number 6 = .ok (.invokestatic 65, 3) := by decide +kernel
theorem dX9_number_9 : decode cX9_number 9 = .ok (.ifCond .eq 15, 3) := by decide +kernel
theorem dX9_number_12 : decode cX9_number 12 = .ok (.iload_n 2, 1) := by decide +kernel
theorem dX9_number_13 : decode cX9_number 13 = .ok (.i2l, 1) := by decide +kernel
theorem dX9_number_14 : decode cX9_number 14 = .ok (.lconst 0, 1) := by decide +kernel
theorem dX9_number_15 : decode cX9_number 15 = .ok (.ldc2_w 71, 3) := by decide +kernel
theorem dX9_number_18 : decode cX9_number 18 = .ok (.invokestatic 65, 3) := by decide +kernel
theorem dX9_number_21 : decode cX9_number 21 = .ok (.ifCond .ne 10, 3) := by decide +kernel
theorem dX9_number_24 : decode cX9_number 24 = .ok (.aload_n 0, 1) := by decide +kernel
theorem dX9_number_25 : decode cX9_number 25 = .ok (.bipush (-2), 2) := by decide +kernel
theorem dX9_number_27 : decode cX9_number 27 = .ok (.invokevirtual 87, 3) := by decide +kernel
theorem dX9_number_30 : decode cX9_number 30 = .ok (.ireturn, 1) := by decide +kernel
theorem dX9_number_31 : decode cX9_number 31 = .ok (.aload_n 0, 1) := by decide +kernel
theorem dX9_number_32 : decode cX9_number 32 = .ok (.invokevirtual 90, 3) := by decide +kernel
theorem dX9_number_35 : decode cX9_number 35 = .ok (.aload_n 0, 1) := by decide +kernel
theorem dX9_number_36 : decode cX9_number 36 = .ok (.getfield 7, 3) := by decide +kernel
theorem dX9_number_39 : decode cX9_number 39 = .ok (.bipush 39, 2) := by decide +kernel
theorem dX9_number_41 : decode cX9_number 41 = .ok (.iload_n 1, 1) := by decide +kernel
theorem dX9_number_42 : decode cX9_number 42 = .ok (.iadd, 1) := by decide +kernel
theorem dX9_number_43 : decode cX9_number 43 = .ok (.iaload, 1) := by decide +kernel
theorem dX9_number_44 : decode cX9_number 44 = .ok (.istore_n 3, 1) := by decide +kernel
theorem dX9_number_45 : decode cX9_number 45 = .ok (.aload_n 0, 1) := by decide +kernel
theorem dX9_number_46 : decode cX9_number 46 = .ok (.getfield 7, 3) := by decide +kernel
theorem dX9_number_49 : decode cX9_number 49 = .ok (.bipush 39, 2) := by decide +kernel
theorem dX9_number_51 : decode cX9_number 51 = .ok (.iload_n 1, 1) := by decide +kernel
theorem dX9_number_52 : decode cX9_number 52 = .ok (.iadd, 1) := by decide +kernel
theorem dX9_number_53 : decode cX9_number 53 = .ok (.iload_n 2, 1) := by decide +kernel
theorem dX9_number_54 : decode cX9_number 54 = .ok (.iastore, 1) := by decide +kernel
theorem dX9_number_55 : decode cX9_number 55 = .ok (.aload_n 0, 1) := by decide +kernel
theorem dX9_number_56 : decode cX9_number 56 = .ok (.getfield 7, 3) := by decide +kernel
theorem dX9_number_59 : decode cX9_number 59 = .ok (.bipush 43, 2) := by decide +kernel
theorem dX9_number_61 : decode cX9_number 61 = .ok (.iconst 0, 1) := by decide +kernel
theorem dX9_number_62 : decode cX9_number 62 = .ok (.iastore, 1) := by decide +kernel
theorem dX9_number_63 : decode cX9_number 63 = .ok (.iload_n 3, 1) := by decide +kernel
theorem dX9_number_64 : decode cX9_number 64 = .ok (.ireturn, 1) := by decide +kernel
set_option maxRecDepth 20000 in
theorem ggX9_readBy_X9_its : GoodIn wsX9_readBy wsX9_its := goodIn_r _ [5, 6, 7, 8, 9, 10, 11, 12, 13, 14, 15, 16, 17, 18, 19, 20, 21, 22, 23, 24, 25, 26, 27, 28] (by decide +kernel) (by decide +kernel)
set_option maxRecDepth 20000 in
theorem gX9_readBy_X9_its : GoodIn wsX9_readBy (wsV RX9 97 RX9 yX9_its wsX9_its) := goodIn_app (goodIn_of _ (by decide +kernel)) ggX9_readBy_X9_its
theorem dX9_readBy_0 : decode cX9_readBy 0 = .ok (.aload_n 0, 1) := by decide +kernel
theorem dX9_readBy_1 : decode cX9_readBy 1 = .ok (.iload_n 1, 1) := by decide +kernel
theorem dX9_readBy_2 : decode cX9_readBy 2 = .ok (.iload_n 2, 1) := by decide +kernel
theorem dX9_readBy_3 : decode cX9_readBy 3 = .ok (.iconst 0, 1) := by decide +kernel
theorem dX9_readBy_4 : decode cX9_readBy 4 = .ok (.invokevirtual 97, 3) := by decide +kernel
theorem dX9_readBy_7 : decode cX9_readBy 7 = .ok (.istore_n 3, 1) := by decide +kernel
theorem dX9_readBy_8 : decode cX9_readBy 8 = .ok (.iload_n 3, 1) := by decide +kernel
theorem dX9_readBy_9 : decode cX9_readBy 9 = .ok (.iconst 1, 1) := by decide +kernel
theorem dX9_readBy_10 : decode cX9_readBy 10 = .ok (.if_icmp .eq 8, 3) := by decide +kernel
theorem dX9_readBy_13 : decode cX9_readBy 13 = .ok (.iload_n 3, 1) := by decide +kernel
theorem dX9_readBy_14 : decode cX9_readBy 14 = .ok (.iconst 3, 1) := by decide +kernel
theorem dX9_readBy_15 : decode cX9_readBy 15 = .ok (.if_icmp .ne 15, 3) := by decide +kernel
theorem dX9_readBy_18 : decode cX9_readBy 18 = .ok (.iconst 1, 1) := by decide +kernel
theorem dX9_readBy_19 : decode cX9_readBy 19 = .ok (.aload_n 0, 1) := by decide +kernel
theorem dX9_readBy_20 : decode cX9_readBy 20 = .ok (.iload_n 1, 1) := by decide +kernel
theorem dX9_readBy_21 : decode cX9_readBy 21 = .ok (.iload_n 2, 1) := by decide +kernel
theorem dX9_readBy_22 : decode cX9_readBy 22 = .ok (.iconst 1, 1) := by decide +kernel
theorem dX9_readBy_23 : decode cX9_readBy 23 = .ok (.invokevirtual 97, 3) := by decide +kernel
theorem dX9_readBy_26 : decode cX9_readBy 26 = .ok (.ishl, 1) := by decide +kernel
theorem dX9_readBy_27 : decode cX9_readBy 27 = .ok (.goto 21, 3) := by decide +kernel
theorem dX9_readBy_30 : decode cX9_readBy 30 = .ok (.iload_n 3, 1) := by decide +kernel
theorem dX9_readBy_31 : decode cX9_readBy 31 = .ok (.iconst 2, 1) := by decide +kernel
theorem dX9_readBy_32 : decode cX9_readBy 32 = .ok (.if_icmp .ne 15, 3) := by decide +kernel
theorem dX9_readBy_35 : decode cX9_readBy 35 = .ok (.iconst 1, 1) := by decide +kernel
theorem dX9_readBy_36 : decode cX9_readBy 36 = .ok (.aload_n 0, 1) := by decide +kernel
theorem dX9_readBy_37 : decode cX9_readBy 37 = .ok (.iload_n 1, 1) := by decide +kernel
theorem dX9_readBy_38 : decode cX9_readBy 38 = .ok (.iload_n 2, 1) := by decide +kernel
theorem dX9_readBy_39 : decode cX9_readBy 39 = .ok (.iconst 2, 1) := by decide +kernel
theorem dX9_readBy_40 : decode cX9_readBy 40 = .ok (.invokevirtual 97, 3) := by decide +kernel
theorem dX9_readBy_43 : decode cX9_readBy 43 = .ok (.ishl, 1) := by decide +kernel
theorem dX9_readBy_44 : decode cX9_readBy 44 = .ok (.goto 4, 3) := by decide +kernel
theorem dX9_readBy_47 : decode cX9_readBy 47 = .ok (.iconst 0, 1) := by decide +kernel
theorem dX9_readBy_48 : decode cX9_readBy 48 = .ok (.ireturn, 1) := by decide +kernel
set_option maxRecDepth 20000 in
theorem ggX9_writes_X9_its : GoodIn wsX9_writes wsX9_its := goodIn_r _ [5, 6, 7, 8, 9, 10, 11, 12, 13, 14, 15, 16, 17, 18, 19, 20, 21, 22, 23, 24, 25, 26, 27, 28] (by decide +kernel) (by decide +kernel)
set_option maxRecDepth 20000 in
theorem gX9_writes_X9_its : GoodIn wsX9_writes (wsV RX9 97 RX9 yX9_its wsX9_its) := goodIn_app (goodIn_of _ (by decide +kernel)) ggX9_writes_X9_its
theorem dX9_writes_0 : decode cX9_writes 0 = .ok (.aload_n 0, 1) := by decide +kernel
theorem dX9_writes_1 : decode cX9_writes 1 = .ok (.iload_n 1, 1) := by decide +kernel
theorem dX9_writes_2 : decode cX9_writes 2 = .ok (.iload_n 2, 1) := by decide +kernel
theorem dX9_writes_3 : decode cX9_writes 3 = .ok (.iconst 0, 1) := by decide +kernel
theorem dX9_writes_4 : decode cX9_writes 4 = .ok (.invokevirtual 97, 3) := by decide +kernel
theorem dX9_writes_7 : decode cX9_writes 7 = .ok (.iconst 3, 1) := by decide +kernel
theorem dX9_writes_8 : decode cX9_writes 8 = .ok (.if_icmp .ge 15, 3) := by decide +kernel
theorem dX9_writes_11 : decode cX9_writes 11 = .ok (.iconst 1, 1) := by decide +kernel
theorem dX9_writes_12 : decode cX9_writes 12 = .ok (.aload_n 0, 1) := by decide +kernel
theorem dX9_writes_13 : decode cX9_writes 13 = .ok (.iload_n 1, 1) := by decide +kernel
theorem dX9_writes_14 : decode cX9_writes 14 = .ok (.iload_n 2, 1) := by decide +kernel
theorem dX9_writes_15 : decode cX9_writes 15 = .ok (.iconst 1, 1) := by decide +kernel
theorem dX9_writes_16 : decode cX9_writes 16 = .ok (.invokevirtual 97, 3) := by decide +kernel
theorem dX9_writes_19 : decode cX9_writes 19 = .ok (.ishl, 1) := by decide +kernel
theorem dX9_writes_20 : decode cX9_writes 20 = .ok (.goto 4, 3) := by decide +kernel
theorem dX9_writes_23 : decode cX9_writes 23 = .ok (.iconst 0, 1) := by decide +kernel
theorem dX9_writes_24 : decode cX9_writes 24 = .ok (.ireturn, 1) := by decide +kernel
set_option maxRecDepth 20000 in
theorem ggX9_isStep_X9_isThread : GoodIn wsX9_isStep wsX9_isThread := goodIn_r _ [4, 5, 6, 7, 3, 8] (by decide +kernel) (by decide +kernel)
set_option maxRecDepth 20000 in
theorem gX9_isStep_X9_isThread : GoodIn wsX9_isStep (va_wsS RX9 79 yX9_isThread wsX9_isThread) := goodIn_app (goodIn_of _ (by decide +kernel)) ggX9_isStep_X9_isThread
set_option maxRecDepth 20000 in
theorem ggX9_isStep_X9_many : GoodIn wsX9_isStep wsX9_many := goodIn_r _ [12, 13, 14, 15, 16, 17, 18, 19, 20, 21, 22, 23, 24, 25, 26, 27, 28, 29, 30, 31, 32, 33, 34, 35] (by decide +kernel) (by decide +kernel)
set_option maxRecDepth 20000 in
theorem gX9_isStep_X9_many : GoodIn wsX9_isStep (wsV RX9 73 RX9 yX9_many wsX9_many) := goodIn_app (goodIn_of _ (by decide +kernel)) ggX9_isStep_X9_many
set_option maxRecDepth 20000 in
theorem ggX9_isStep_X9_in : GoodIn wsX9_isStep wsX9_in := goodIn_r _ [8] (by decide +kernel) (by decide +kernel)
set_option maxRecDepth 20000 in
theorem gX9_isStep_X9_in : GoodIn wsX9_isStep (va_wsS RX9 65 yX9_in wsX9_in) := goodIn_app (goodIn_of _ (by decide +kernel)) ggX9_isStep_X9_in
theorem dX9_isStep_0 : decode cX9_isStep 0 = .ok (.iload_n 1, 1) := by decide +kernel
theorem dX9_isStep_1 : decode cX9_isStep 1 = .ok (.invokestatic 79, 3) := by decide +kernel
theorem dX9_isStep_4 : decode cX9_isStep 4 = .ok (.ifCond .eq 24, 3) := by decide +kernel
theorem dX9_isStep_7 : decode cX9_isStep 7 = .ok (.iload_n 2, 1) := by decide +kernel
theorem dX9_isStep_8 : decode cX9_isStep 8 = .ok (.i2l, 1) := by decide +kernel
theorem dX9_isStep_9 : decode cX9_isStep 9 = .ok (.lconst 0, 1) := by decide +kernel
theorem dX9_isStep_10 : decode cX9_isStep 10 = .ok (.aload_n 0, 1) := by decide +kernel
theorem dX9_isStep_11 : decode cX9_isStep 11 = .ok (.iload_n 1, 1) := by decide +kernel
theorem dX9_isStep_12 : decode cX9_isStep 12 = .ok (.invokevirtual 73, 3) := by decide +kernel
theorem dX9_isStep_15 : decode cX9_isStep 15 = .ok (.iconst 1, 1) := by decide +kernel
theorem dX9_isStep_16 : decode cX9_isStep 16 = .ok (.isub, 1) := by decide +kernel
theorem dX9_isStep_17 : decode cX9_isStep 17 = .ok (.i2l, 1) := by decide +kernel
theorem dX9_isStep_18 : decode cX9_isStep 18 = .ok (.invokestatic 65, 3) := by decide +kernel
theorem dX9_isStep_21 : decode cX9_isStep 21 = .ok (.ifCond .eq 7, 3) := by decide +kernel
theorem dX9_isStep_24 : decode cX9_isStep 24 = .ok (.iconst 1, 1) := by decide +kernel
theorem dX9_isStep_25 : decode cX9_isStep 25 = .ok (.goto 4, 3) := by decide +kernel
theorem dX9_isStep_28 : decode cX9_isStep 28 = .ok (.iconst 0, 1) := by decide +kernel
theorem dX9_isStep_29 : decode cX9_isStep 29 = .ok (.ireturn, 1) := by decide +kernel
set_option maxRecDepth 20000 in
theorem ggX9_ofStep_X9_its : GoodIn wsX9_ofStep wsX9_its := goodIn_r _ [5, 6, 15, 16, 17, 18, 19, 20, 21, 22, 23, 24, 25, 26, 27, 28, 29, 30, 31, 32, 33, 34, 35, 36] (by decide +kernel) (by decide +kernel)
set_option maxRecDepth 20000 in
theorem gX9_ofStep_X9_its : GoodIn wsX9_ofStep (wsV RX9 97 RX9 yX9_its wsX9_its) := goodIn_app (goodIn_of _ (by decide +kernel)) ggX9_ofStep_X9_its
set_option maxRecDepth 20000 in
theorem ggX9_ofStep_X9_readBy : GoodIn wsX9_ofStep wsX9_readBy := goodIn_r _ [10, 1, 2, 3, 4, 5, 6, 15, 16, 17, 18, 19, 20, 21, 22, 23, 24, 25, 26, 27, 28, 29, 30, 31, 32, 33, 34, 35, 36] (by decide +kernel) (by decide +kernel)
set_option maxRecDepth 20000 in
theorem gX9_ofStep_X9_readBy : GoodIn wsX9_ofStep (wsV RX9 101 RX9 yX9_readBy wsX9_readBy) := goodIn_app (goodIn_of _ (by decide +kernel)) ggX9_ofStep_X9_readBy
set_option maxRecDepth 20000 in
theorem ggX9_ofStep_X9_writes : GoodIn wsX9_ofStep wsX9_writes := goodIn_r _ [14, 1, 2, 3, 4, 5, 6, 15, 16, 17, 18, 19, 20, 21, 22, 23, 24, 25, 26, 27, 28, 29, 30, 31, 32, 33, 34, 35, 36] (by decide +kernel) (by decide +kernel)
set_option maxRecDepth 20000 in
theorem gX9_ofStep_X9_writes : GoodIn wsX9_ofStep (wsV RX9 105 RX9 yX9_writes wsX9_writes) := goodIn_app (goodIn_of _ (by decide +kernel)) ggX9_ofStep_X9_writes
theorem dX9_ofStep_0 : decode cX9_ofStep 0 = .ok (.iload_n 3, 1) := by decide +kernel
theorem dX9_ofStep_1 : decode cX9_ofStep 1 = .ok (.iconst 3, 1) := by decide +kernel
theorem dX9_ofStep_2 : decode cX9_ofStep 2 = .ok (.if_icmp .ge 13, 3) := by decide +kernel
theorem dX9_ofStep_5 : decode cX9_ofStep 5 = .ok (.aload_n 0, 1) := by decide +kernel
theorem dX9_ofStep_6 : decode cX9_ofStep 6 = .ok (.iload_n 1, 1) := by decide +kernel
theorem dX9_ofStep_7 : decode cX9_ofStep 7 = .ok (.iload_n 2, 1) := by decide +kernel
theorem dX9_ofStep_8 : decode cX9_ofStep 8 = .ok (.iload_n 3, 1) := by decide +kernel
theorem dX9_ofStep_9 : decode cX9_ofStep 9 = .ok (.invokevirtual 97, 3) := by decide +kernel
theorem dX9_ofStep_12 : decode cX9_ofStep 12 = .ok (.goto 23, 3) := by decide +kernel
theorem dX9_ofStep_15 : decode cX9_ofStep 15 = .ok (.iload_n 3, 1) := by decide +kernel
theorem dX9_ofStep_16 : decode cX9_ofStep 16 = .ok (.iconst 3, 1) := by decide +kernel
theorem dX9_ofStep_17 : decode cX9_ofStep 17 = .ok (.if_icmp .ne 12, 3) := by decide +kernel
theorem dX9_ofStep_20 : decode cX9_ofStep 20 = .ok (.aload_n 0, 1) := by decide +kernel
theorem dX9_ofStep_21 : decode cX9_ofStep 21 = .ok (.iload_n 1, 1) := by decide +kernel
theorem dX9_ofStep_22 : decode cX9_ofStep 22 = .ok (.iload_n 2, 1) := by decide +kernel
theorem dX9_ofStep_23 : decode cX9_ofStep 23 = .ok (.invokevirtual 101, 3) := by decide +kernel
theorem dX9_ofStep_26 : decode cX9_ofStep 26 = .ok (.goto 9, 3) := by decide +kernel
theorem dX9_ofStep_29 : decode cX9_ofStep 29 = .ok (.aload_n 0, 1) := by decide +kernel
theorem dX9_ofStep_30 : decode cX9_ofStep 30 = .ok (.iload_n 1, 1) := by decide +kernel
theorem dX9_ofStep_31 : decode cX9_ofStep 31 = .ok (.iload_n 2, 1) := by decide +kernel
theorem dX9_ofStep_32 : decode cX9_ofStep 32 = .ok (.invokevirtual 105, 3) := by decide +kernel
theorem dX9_ofStep_35 : decode cX9_ofStep 35 = .ok (.ireturn, 1) := by decide +kernel
set_option maxRecDepth 20000 in
theorem ggX9_of_X9_isStep : GoodIn wsX9_of wsX9_isStep := goodIn_r _ [6, 7, 8, 5, 9, 10, 11, 12, 13, 14, 15, 16, 17, 18, 40, 41, 42, 43, 44, 45, 46, 47, 48, 49, 50, 51, 52, 53, 54, 55, 56, 57, 58, 59, 60, 61] (by decide +kernel) (by decide +kernel)
set_option maxRecDepth 20000 in
theorem gX9_of_X9_isStep : GoodIn wsX9_of (wsV RX9 108 RX9 yX9_isStep wsX9_isStep) := goodIn_app (goodIn_of _ (by decide +kernel)) ggX9_of_X9_isStep
set_option maxRecDepth 20000 in
theorem ggX9_of_X9_in : GoodIn wsX9_of wsX9_in := goodIn_r _ [13] (by decide +kernel) (by decide +kernel)
set_option maxRecDepth 20000 in
theorem gX9_of_X9_in : GoodIn wsX9_of (va_wsS RX9 65 yX9_in wsX9_in) := goodIn_app (goodIn_of _ (by decide +kernel)) ggX9_of_X9_in
set_option maxRecDepth 20000 in
theorem ggX9_of_X9_ofStep : GoodIn wsX9_of wsX9_ofStep := goodIn_r _ [22, 23, 24, 25, 5, 26, 18, 27, 28, 29, 30, 31, 32, 33, 34, 40, 41, 42, 43, 44, 45, 46, 47, 48, 49, 50, 51, 52, 53, 54, 55, 56, 57, 58, 59, 60, 61] (by decide +kernel) (by decide +kernel)
set_option maxRecDepth 20000 in
theorem gX9_of_X9_ofStep : GoodIn wsX9_of (wsV RX9 114 RX9 yX9_ofStep wsX9_ofStep) := goodIn_app (goodIn_of _ (by decide +kernel)) ggX9_of_X9_ofStep
set_option maxRecDepth 20000 in
theorem ggX9_of_X9_refuses : GoodIn wsX9_of wsX9_refuses := goodIn_r _ [38, 39, 40, 41, 42, 43, 44, 45, 46, 47, 48, 49, 50, 51, 52, 53, 54, 55, 56, 57, 58, 59, 60, 61] (by decide +kernel) (by decide +kernel)
set_option maxRecDepth 20000 in
theorem gX9_of_X9_refuses : GoodIn wsX9_of (wsV RX9 87 RX9 yX9_refuses wsX9_refuses) := goodIn_app (goodIn_of _ (by decide +kernel)) ggX9_of_X9_refuses
theorem dX9_of_0 : decode cX9_of 0 = .ok (.aload_n 0, 1) := by decide +kernel
theorem dX9_of_1 : decode cX9_of 1 = .ok (.iload_n 1, 1) := by decide +kernel
theorem dX9_of_2 : decode cX9_of 2 = .ok (.iload_n 2, 1) := by decide +kernel
theorem dX9_of_3 : decode cX9_of 3 = .ok (.invokevirtual 108, 3) := by decide +kernel
theorem dX9_of_6 : decode cX9_of 6 = .ok (.ifCond .eq 25, 3) := by decide +kernel
theorem dX9_of_9 : decode cX9_of 9 = .ok (.iload_n 3, 1) := by decide +kernel
theorem dX9_of_10 : decode cX9_of 10 = .ok (.i2l, 1) := by decide +kernel
theorem dX9_of_11 : decode cX9_of 11 = .ok (.lconst 0, 1) := by decide +kernel
theorem dX9_of_12 : decode cX9_of 12 = .ok (.ldc2_w 112, 3) := by decide +kernel
theorem dX9_of_15 : decode cX9_of 15 = .ok (.invokestatic 65, 3) := by decide +kernel
theorem dX9_of_18 : decode cX9_of 18 = .ok (.ifCond .eq 13, 3) := by decide +kernel
theorem dX9_of_21 : decode cX9_of 21 = .ok (.aload_n 0, 1) := by decide +kernel
theorem dX9_of_22 : decode cX9_of 22 = .ok (.iload_n 1, 1) := by decide +kernel
theorem dX9_of_23 : decode cX9_of 23 = .ok (.iload_n 2, 1) := by decide +kernel
theorem dX9_of_24 : decode cX9_of 24 = .ok (.iload_n 3, 1) := by decide +kernel
theorem dX9_of_25 : decode cX9_of 25 = .ok (.invokevirtual 114, 3) := by decide +kernel
theorem dX9_of_28 : decode cX9_of 28 = .ok (.goto 9, 3) := by decide +kernel
theorem dX9_of_31 : decode cX9_of 31 = .ok (.aload_n 0, 1) := by decide +kernel
theorem dX9_of_32 : decode cX9_of 32 = .ok (.bipush (-2), 2) := by decide +kernel
theorem dX9_of_34 : decode cX9_of 34 = .ok (.invokevirtual 87, 3) := by decide +kernel
theorem dX9_of_37 : decode cX9_of 37 = .ok (.ireturn, 1) := by decide +kernel
set_option maxRecDepth 20000 in
theorem ggX9_byNumber_X9_writes : GoodIn wsX9_byNumber wsX9_writes := goodIn_r _ [5, 6, 7, 8, 4, 9, 10, 15, 16, 17, 18, 19, 20, 21, 22, 23, 24, 25, 26, 27, 28, 29, 30, 31, 32, 33, 34, 35, 36] (by decide +kernel) (by decide +kernel)
set_option maxRecDepth 20000 in
theorem gX9_byNumber_X9_writes : GoodIn wsX9_byNumber (wsV RX9 105 RX9 yX9_writes wsX9_writes) := goodIn_app (goodIn_of _ (by decide +kernel)) ggX9_byNumber_X9_writes
set_option maxRecDepth 20000 in
theorem ggX9_byNumber_X9_readBy : GoodIn wsX9_byNumber wsX9_readBy := goodIn_r _ [14, 6, 7, 8, 4, 9, 10, 15, 16, 17, 18, 19, 20, 21, 22, 23, 24, 25, 26, 27, 28, 29, 30, 31, 32, 33, 34, 35, 36] (by decide +kernel) (by decide +kernel)
set_option maxRecDepth 20000 in
theorem gX9_byNumber_X9_readBy : GoodIn wsX9_byNumber (wsV RX9 101 RX9 yX9_readBy wsX9_readBy) := goodIn_app (goodIn_of _ (by decide +kernel)) ggX9_byNumber_X9_readBy
theorem dX9_byNumber_0 : decode cX9_byNumber 0 = .ok (.aload_n 0, 1) := by decide +kernel
theorem dX9_byNumber_1 : decode cX9_byNumber 1 = .ok (.iload_n 1, 1) := by decide +kernel
theorem dX9_byNumber_2 : decode cX9_byNumber 2 = .ok (.iload_n 2, 1) := by decide +kernel
theorem dX9_byNumber_3 : decode cX9_byNumber 3 = .ok (.invokevirtual 105, 3) := by decide +kernel
theorem dX9_byNumber_6 : decode cX9_byNumber 6 = .ok (.aload_n 0, 1) := by decide +kernel
theorem dX9_byNumber_7 : decode cX9_byNumber 7 = .ok (.iload_n 3, 1) := by decide +kernel
theorem dX9_byNumber_8 : decode cX9_byNumber 8 = .ok (.iload 4, 2) := by decide +kernel
theorem dX9_byNumber_10 : decode cX9_byNumber 10 = .ok (.invokevirtual 101, 3) := by decide +kernel
theorem dX9_byNumber_13 : decode cX9_byNumber 13 = .ok (.aload_n 0, 1) := by decide +kernel
theorem dX9_byNumber_14 : decode cX9_byNumber 14 = .ok (.iload_n 3, 1) := by decide +kernel
theorem dX9_byNumber_15 : decode cX9_byNumber 15 = .ok (.iload 4, 2) := by decide +kernel
theorem dX9_byNumber_17 : decode cX9_byNumber 17 = .ok (.invokevirtual 105, 3) := by decide +kernel
theorem dX9_byNumber_20 : decode cX9_byNumber 20 = .ok (.ior, 1) := by decide +kernel
theorem dX9_byNumber_21 : decode cX9_byNumber 21 = .ok (.iand, 1) := by decide +kernel
theorem dX9_byNumber_22 : decode cX9_byNumber 22 = .ok (.ifCond .ne 20, 3) := by decide +kernel
theorem dX9_byNumber_25 : decode cX9_byNumber 25 = .ok (.aload_n 0, 1) := by decide +kernel
theorem dX9_byNumber_26 : decode cX9_byNumber 26 = .ok (.iload_n 3, 1) := by decide +kernel
theorem dX9_byNumber_27 : decode cX9_byNumber 27 = .ok (.iload 4, 2) := by decide +kernel
theorem dX9_byNumber_29 : decode cX9_byNumber 29 = .ok (.invokevirtual 105, 3) := by decide +kernel
theorem dX9_byNumber_32 : decode cX9_byNumber 32 = .ok (.aload_n 0, 1) := by decide +kernel
theorem dX9_byNumber_33 : decode cX9_byNumber 33 = .ok (.iload_n 1, 1) := by decide +kernel
theorem dX9_byNumber_34 : decode cX9_byNumber 34 = .ok (.iload_n 2, 1) := by decide +kernel
theorem dX9_byNumber_35 : decode cX9_byNumber 35 = .ok (.invokevirtual 101, 3) := by decide +kernel
theorem dX9_byNumber_38 : decode cX9_byNumber 38 = .ok (.iand, 1) := by decide +kernel
theorem dX9_byNumber_39 : decode cX9_byNumber 39 = .ok (.ifCond .eq 7, 3) := by decide +kernel
theorem dX9_byNumber_42 : decode cX9_byNumber 42 = .ok (.iconst 1, 1) := by decide +kernel
theorem dX9_byNumber_43 : decode cX9_byNumber 43 = .ok (.goto 4, 3) := by decide +kernel
theorem dX9_byNumber_46 : decode cX9_byNumber 46 = .ok (.iconst 0, 1) := by decide +kernel
theorem dX9_byNumber_47 : decode cX9_byNumber 47 = .ok (.ireturn, 1) := by decide +kernel
set_option maxRecDepth 20000 in
theorem ggX9_areDependent_X9_its : GoodIn wsX9_areDependent wsX9_its := goodIn_r _ [5, 6, 19, 20, 21, 22, 23, 24, 25, 26, 27, 28, 29, 30, 31, 32, 33, 34, 35, 36, 37, 38, 39, 40] (by decide +kernel) (by decide +kernel)
set_option maxRecDepth 20000 in
theorem gX9_areDependent_X9_its : GoodIn wsX9_areDependent (wsV RX9 97 RX9 yX9_its wsX9_its) := goodIn_app (goodIn_of _ (by decide +kernel)) ggX9_areDependent_X9_its
set_option maxRecDepth 20000 in
theorem ggX9_areDependent_X9_byNumber : GoodIn wsX9_areDependent wsX9_byNumber := goodIn_r _ [10, 11, 12, 13, 4, 14, 1, 2, 3, 5, 6, 15, 16, 17, 18, 19, 20, 21, 22, 23, 24, 25, 26, 27, 28, 29, 30, 31, 32, 33, 34, 35, 36, 37, 38, 39, 40] (by decide +kernel) (by decide +kernel)
set_option maxRecDepth 20000 in
theorem gX9_areDependent_X9_byNumber : GoodIn wsX9_areDependent (wsV RX9 117 RX9 yX9_byNumber wsX9_byNumber) := goodIn_app (goodIn_of _ (by decide +kernel)) ggX9_areDependent_X9_byNumber
theorem dX9_areDependent_0 : decode cX9_areDependent 0 = .ok (.aload_n 0, 1) := by decide +kernel
theorem dX9_areDependent_1 : decode cX9_areDependent 1 = .ok (.iload_n 1, 1) := by decide +kernel
theorem dX9_areDependent_2 : decode cX9_areDependent 2 = .ok (.iload_n 2, 1) := by decide +kernel
theorem dX9_areDependent_3 : decode cX9_areDependent 3 = .ok (.iconst 0, 1) := by decide +kernel
theorem dX9_areDependent_4 : decode cX9_areDependent 4 = .ok (.invokevirtual 97, 3) := by decide +kernel
theorem dX9_areDependent_7 : decode cX9_areDependent 7 = .ok (.iconst 4, 1) := by decide +kernel
theorem dX9_areDependent_8 : decode cX9_areDependent 8 = .ok (.if_icmp .lt 37, 3) := by decide +kernel
theorem dX9_areDependent_11 : decode cX9_areDependent 11 = .ok (.aload_n 0, 1) := by decide +kernel
theorem dX9_areDependent_12 : decode cX9_areDependent 12 = .ok (.iload_n 3, 1) := by decide +kernel
theorem dX9_areDependent_13 : decode cX9_areDependent 13 = .ok (.iload 4, 2) := by decide +kernel
theorem dX9_areDependent_15 : decode cX9_areDependent 15 = .ok (.iconst 0, 1) := by decide +kernel
theorem dX9_areDependent_16 : decode cX9_areDependent 16 = .ok (.invokevirtual 97, 3) := by decide +kernel
theorem dX9_areDependent_19 : decode cX9_areDependent 19 = .ok (.iconst 4, 1) := by decide +kernel
theorem dX9_areDependent_20 : decode cX9_areDependent 20 = .ok (.if_icmp .lt 25, 3) := by decide +kernel
theorem dX9_areDependent_23 : decode cX9_areDependent 23 = .ok (.aload_n 0, 1) := by decide +kernel
theorem dX9_areDependent_24 : decode cX9_areDependent 24 = .ok (.iload_n 1, 1) := by decide +kernel
theorem dX9_areDependent_25 : decode cX9_areDependent 25 = .ok (.iload_n 2, 1) := by decide +kernel
theorem dX9_areDependent_26 : decode cX9_areDependent 26 = .ok (.iconst 1, 1) := by decide +kernel
theorem dX9_areDependent_27 : decode cX9_areDependent 27 = .ok (.invokevirtual 97, 3) := by decide +kernel
theorem dX9_areDependent_30 : decode cX9_areDependent 30 = .ok (.aload_n 0, 1) := by decide +kernel
theorem dX9_areDependent_31 : decode cX9_areDependent 31 = .ok (.iload_n 3, 1) := by decide +kernel
theorem dX9_areDependent_32 : decode cX9_areDependent 32 = .ok (.iload 4, 2) := by decide +kernel
theorem dX9_areDependent_34 : decode cX9_areDependent 34 = .ok (.iconst 1, 1) := by decide +kernel
theorem dX9_areDependent_35 : decode cX9_areDependent 35 = .ok (.invokevirtual 97, 3) := by decide +kernel
theorem dX9_areDependent_38 : decode cX9_areDependent 38 = .ok (.if_icmp .ne 7, 3) := by decide +kernel
theorem dX9_areDependent_41 : decode cX9_areDependent 41 = .ok (.iconst 1, 1) := by decide +kernel
theorem dX9_areDependent_42 : decode cX9_areDependent 42 = .ok (.goto 4, 3) := by decide +kernel
theorem dX9_areDependent_45 : decode cX9_areDependent 45 = .ok (.iconst 0, 1) := by decide +kernel
theorem dX9_areDependent_46 : decode cX9_areDependent 46 = .ok (.istore 5, 2) := by decide +kernel
theorem dX9_areDependent_48 : decode cX9_areDependent 48 = .ok (.iload_n 1, 1) := by decide +kernel
theorem dX9_areDependent_49 : decode cX9_areDependent 49 = .ok (.iload_n 3, 1) := by decide +kernel
theorem dX9_areDependent_50 : decode cX9_areDependent 50 = .ok (.if_icmp .eq 20, 3) := by decide +kernel
theorem dX9_areDependent_53 : decode cX9_areDependent 53 = .ok (.iload 5, 2) := by decide +kernel
theorem dX9_areDependent_55 : decode cX9_areDependent 55 = .ok (.ifCond .ne 15, 3) := by decide +kernel
theorem dX9_areDependent_58 : decode cX9_areDependent 58 = .ok (.aload_n 0, 1) := by decide +kernel
theorem dX9_areDependent_59 : decode cX9_areDependent 59 = .ok (.iload_n 1, 1) := by decide +kernel
theorem dX9_areDependent_60 : decode cX9_areDependent 60 = .ok (.iload_n 2, 1) := by decide +kernel
theorem dX9_areDependent_61 : decode cX9_areDependent 61 = .ok (.iload_n 3, 1) := by decide +kernel
theorem dX9_areDependent_62 : decode cX9_areDependent 62 = .ok (.iload 4, 2) := by decide +kernel
theorem dX9_areDependent_64 : decode cX9_areDependent 64 = .ok (.invokevirtual 117, 3) := by decide +kernel
theorem dX9_areDependent_67 : decode cX9_areDependent 67 = .ok (.ifCond .eq 7, 3) := by decide +kernel
theorem dX9_areDependent_70 : decode cX9_areDependent 70 = .ok (.iconst 1, 1) := by decide +kernel
theorem dX9_areDependent_71 : decode cX9_areDependent 71 = .ok (.goto 4, 3) := by decide +kernel
theorem dX9_areDependent_74 : decode cX9_areDependent 74 = .ok (.iconst 0, 1) := by decide +kernel
theorem dX9_areDependent_75 : decode cX9_areDependent 75 = .ok (.ireturn, 1) := by decide +kernel
set_option maxRecDepth 20000 in
theorem ggX9_depend_X9_isStep : GoodIn wsX9_depend wsX9_isStep := goodIn_r _ [5, 6, 7, 4, 8, 9, 10, 11, 12, 13, 14, 15, 16, 17, 43, 44, 45, 46, 47, 48, 49, 50, 51, 52, 53, 54, 55, 56, 57, 58, 59, 60, 61, 62, 63, 64] (by decide +kernel) (by decide +kernel)
set_option maxRecDepth 20000 in
theorem gX9_depend_X9_isStep : GoodIn wsX9_depend (wsV RX9 108 RX9 yX9_isStep wsX9_isStep) := goodIn_app (goodIn_of _ (by decide +kernel)) ggX9_depend_X9_isStep
set_option maxRecDepth 20000 in
theorem ggX9_depend_X9_areDependent : GoodIn wsX9_depend wsX9_areDependent := goodIn_r _ [21, 22, 23, 24, 4, 25, 17, 26, 27, 28, 29, 30, 31, 32, 33, 34, 35, 36, 37, 43, 44, 45, 46, 47, 48, 49, 50, 51, 52, 53, 54, 55, 56, 57, 58, 59, 60, 61, 62, 63, 64] (by decide +kernel) (by decide +kernel)
set_option maxRecDepth 20000 in
theorem gX9_depend_X9_areDependent : GoodIn wsX9_depend (wsV RX9 121 RX9 yX9_areDependent wsX9_areDependent) := goodIn_app (goodIn_of _ (by decide +kernel)) ggX9_depend_X9_areDependent
set_option maxRecDepth 20000 in
theorem ggX9_depend_X9_refuses : GoodIn wsX9_depend wsX9_refuses := goodIn_r _ [41, 42, 43, 44, 45, 46, 47, 48, 49, 50, 51, 52, 53, 54, 55, 56, 57, 58, 59, 60, 61, 62, 63, 64] (by decide +kernel) (by decide +kernel)
set_option maxRecDepth 20000 in
theorem gX9_depend_X9_refuses : GoodIn wsX9_depend (wsV RX9 87 RX9 yX9_refuses wsX9_refuses) := goodIn_app (goodIn_of _ (by decide +kernel)) ggX9_depend_X9_refuses
theorem dX9_depend_0 : decode cX9_depend 0 = .ok (.aload_n 0, 1) := by decide +kernel
theorem dX9_depend_1 : decode cX9_depend 1 = .ok (.iload_n 1, 1) := by decide +kernel
theorem dX9_depend_2 : decode cX9_depend 2 = .ok (.iload_n 2, 1) := by decide +kernel
theorem dX9_depend_3 : decode cX9_depend 3 = .ok (.invokevirtual 108, 3) := by decide +kernel
theorem dX9_depend_6 : decode cX9_depend 6 = .ok (.ifCond .eq 44, 3) := by decide +kernel
theorem dX9_depend_9 : decode cX9_depend 9 = .ok (.aload_n 0, 1) := by decide +kernel
theorem dX9_depend_10 : decode cX9_depend 10 = .ok (.iload_n 3, 1) := by decide +kernel
theorem dX9_depend_11 : decode cX9_depend 11 = .ok (.iload 4, 2) := by decide +kernel
theorem dX9_depend_13 : decode cX9_depend 13 = .ok (.invokevirtual 108, 3) := by decide +kernel
theorem dX9_depend_16 : decode cX9_depend 16 = .ok (.ifCond .eq 34, 3) := by decide +kernel
theorem dX9_depend_19 : decode cX9_depend 19 = .ok (.iload_n 1, 1) := by decide +kernel
theorem dX9_depend_20 : decode cX9_depend 20 = .ok (.iload_n 3, 1) := by decide +kernel
theorem dX9_depend_21 : decode cX9_depend 21 = .ok (.if_icmp .ne 9, 3) := by decide +kernel
theorem dX9_depend_24 : decode cX9_depend 24 = .ok (.iload_n 2, 1) := by decide +kernel
theorem dX9_depend_25 : decode cX9_depend 25 = .ok (.iload 4, 2) := by decide +kernel
theorem dX9_depend_27 : decode cX9_depend 27 = .ok (.if_icmp .eq 23, 3) := by decide +kernel
theorem dX9_depend_30 : decode cX9_depend 30 = .ok (.aload_n 0, 1) := by decide +kernel
theorem dX9_depend_31 : decode cX9_depend 31 = .ok (.iload_n 1, 1) := by decide +kernel
theorem dX9_depend_32 : decode cX9_depend 32 = .ok (.iload_n 2, 1) := by decide +kernel
theorem dX9_depend_33 : decode cX9_depend 33 = .ok (.iload_n 3, 1) := by decide +kernel
theorem dX9_depend_34 : decode cX9_depend 34 = .ok (.iload 4, 2) := by decide +kernel
theorem dX9_depend_36 : decode cX9_depend 36 = .ok (.invokevirtual 121, 3) := by decide +kernel
theorem dX9_depend_39 : decode cX9_depend 39 = .ok (.ifCond .eq 7, 3) := by decide +kernel
theorem dX9_depend_42 : decode cX9_depend 42 = .ok (.iconst 1, 1) := by decide +kernel
theorem dX9_depend_43 : decode cX9_depend 43 = .ok (.goto 13, 3) := by decide +kernel
theorem dX9_depend_46 : decode cX9_depend 46 = .ok (.iconst 0, 1) := by decide +kernel
theorem dX9_depend_47 : decode cX9_depend 47 = .ok (.goto 9, 3) := by decide +kernel
theorem dX9_depend_50 : decode cX9_depend 50 = .ok (.aload_n 0, 1) := by decide +kernel
theorem dX9_depend_51 : decode cX9_depend 51 = .ok (.bipush (-2), 2) := by decide +kernel
theorem dX9_depend_53 : decode cX9_depend 53 = .ok (.invokevirtual 87, 3) := by decide +kernel
theorem dX9_depend_56 : decode cX9_depend 56 = .ok (.ireturn, 1) := by decide +kernel
set_option maxRecDepth 20000 in
theorem ggX9_holder_X9_its : GoodIn wsX9_holder wsX9_its := goodIn_r _ [6, 7, 8, 9, 10, 11, 12, 13, 14, 15, 16, 17, 18, 19, 20, 21, 22, 23, 24, 25, 26, 27, 28, 29] (by decide +kernel) (by decide +kernel)
set_option maxRecDepth 20000 in
theorem gX9_holder_X9_its : GoodIn wsX9_holder (wsV RX9 97 RX9 yX9_its wsX9_its) := goodIn_app (goodIn_of _ (by decide +kernel)) ggX9_holder_X9_its
theorem dX9_holder_0 : decode cX9_holder 0 = .ok (.iconst (-1), 1) := by decide +kernel
theorem dX9_holder_1 : decode cX9_holder 1 = .ok (.istore_n 2, 1) := by decide +kernel
theorem dX9_holder_2 : decode cX9_holder 2 = .ok (.iconst 0, 1) := by decide +kernel
theorem dX9_holder_3 : decode cX9_holder 3 = .ok (.istore_n 3, 1) := by decide +kernel
theorem dX9_holder_4 : decode cX9_holder 4 = .ok (.iload_n 3, 1) := by decide +kernel
theorem dX9_holder_5 : decode cX9_holder 5 = .ok (.iconst 3, 1) := by decide +kernel
theorem dX9_holder_6 : decode cX9_holder 6 = .ok (.if_icmp .ge 103, 3) := by decide +kernel
theorem dX9_holder_9 : decode cX9_holder 9 = .ok (.iconst 0, 1) := by decide +kernel
theorem dX9_holder_10 : decode cX9_holder 10 = .ok (.istore 4, 2) := by decide +kernel
theorem dX9_holder_12 : decode cX9_holder 12 = .ok (.iconst 0, 1) := by decide +kernel
theorem dX9_holder_13 : decode cX9_holder 13 = .ok (.istore 5, 2) := by decide +kernel
theorem dX9_holder_15 : decode cX9_holder 15 = .ok (.iload 5, 2) := by decide +kernel
theorem dX9_holder_17 : decode cX9_holder 17 = .ok (.aload_n 0, 1) := by decide +kernel
theorem dX9_holder_18 : decode cX9_holder 18 = .ok (.getfield 19, 3) := by decide +kernel
theorem dX9_holder_21 : decode cX9_holder 21 = .ok (.iload_n 3, 1) := by decide +kernel
theorem dX9_holder_22 : decode cX9_holder 22 = .ok (.iaload, 1) := by decide +kernel
theorem dX9_holder_23 : decode cX9_holder 23 = .ok (.if_icmp .ge 69, 3) := by decide +kernel
theorem dX9_holder_26 : decode cX9_holder 26 = .ok (.aload_n 0, 1) := by decide +kernel
theorem dX9_holder_27 : decode cX9_holder 27 = .ok (.iload_n 3, 1) := by decide +kernel
theorem dX9_holder_28 : decode cX9_holder 28 = .ok (.iload 5, 2) := by decide +kernel
theorem dX9_holder_30 : decode cX9_holder 30 = .ok (.iconst 0, 1) := by decide +kernel
theorem dX9_holder_31 : decode cX9_holder 31 = .ok (.invokevirtual 97, 3) := by decide +kernel
theorem dX9_holder_34 : decode cX9_holder 34 = .ok (.iconst 4, 1) := by decide +kernel
theorem dX9_holder_35 : decode cX9_holder 35 = .ok (.if_icmp .lt 19, 3) := by decide +kernel
theorem dX9_holder_38 : decode cX9_holder 38 = .ok (.aload_n 0, 1) := by decide +kernel
theorem dX9_holder_39 : decode cX9_holder 39 = .ok (.iload_n 3, 1) := by decide +kernel
theorem dX9_holder_40 : decode cX9_holder 40 = .ok (.iload 5, 2) := by decide +kernel
theorem dX9_holder_42 : decode cX9_holder 42 = .ok (.iconst 1, 1) := by decide +kernel
theorem dX9_holder_43 : decode cX9_holder 43 = .ok (.invokevirtual 97, 3) := by decide +kernel
theorem dX9_holder_46 : decode cX9_holder 46 = .ok (.iload_n 1, 1) := by decide +kernel
theorem dX9_holder_47 : decode cX9_holder 47 = .ok (.if_icmp .ne 7, 3) := by decide +kernel
theorem dX9_holder_50 : decode cX9_holder 50 = .ok (.iconst 1, 1) := by decide +kernel
theorem dX9_holder_51 : decode cX9_holder 51 = .ok (.goto 4, 3) := by decide +kernel
theorem dX9_holder_54 : decode cX9_holder 54 = .ok (.iconst 0, 1) := by decide +kernel
theorem dX9_holder_55 : decode cX9_holder 55 = .ok (.istore 6, 2) := by decide +kernel
theorem dX9_holder_57 : decode cX9_holder 57 = .ok (.iload 6, 2) := by decide +kernel
theorem dX9_holder_59 : decode cX9_holder 59 = .ok (.ifCond .eq 23, 3) := by decide +kernel
theorem dX9_holder_62 : decode cX9_holder 62 = .ok (.aload_n 0, 1) := by decide +kernel
theorem dX9_holder_63 : decode cX9_holder 63 = .ok (.iload_n 3, 1) := by decide +kernel
theorem dX9_holder_64 : decode cX9_holder 64 = .ok (.iload 5, 2) := by decide +kernel
theorem dX9_holder_66 : decode cX9_holder 66 = .ok (.iconst 0, 1) := by decide +kernel
theorem dX9_holder_67 : decode cX9_holder 67 = .ok (.invokevirtual 97, 3) := by decide +kernel
theorem dX9_holder_70 : decode cX9_holder 70 = .ok (.iconst 4, 1) := by decide +kernel
theorem dX9_holder_71 : decode cX9_holder 71 = .ok (.if_icmp .ne 7, 3) := by decide +kernel
theorem dX9_holder_74 : decode cX9_holder 74 = .ok (.iconst 1, 1) := by decide +kernel
theorem dX9_holder_75 : decode cX9_holder 75 = .ok (.goto 9, 3) := by decide +kernel
theorem dX9_holder_78 : decode cX9_holder 78 = .ok (.iconst 0, 1) := by decide +kernel
theorem dX9_holder_79 : decode cX9_holder 79 = .ok (.goto 5, 3) := by decide +kernel
theorem dX9_holder_82 : decode cX9_holder 82 = .ok (.iload 4, 2) := by decide +kernel
theorem dX9_holder_84 : decode cX9_holder 84 = .ok (.istore 4, 2) := by decide +kernel
theorem dX9_holder_86 : decode cX9_holder 86 = .ok (.iinc 5 1, 3) := by decide +kernel
theorem dX9_holder_89 : decode cX9_holder 89 = .ok (.goto (-74), 3) := by decide +kernel
theorem dX9_holder_92 : decode cX9_holder 92 = .ok (.iload 4, 2) := by decide +kernel
theorem dX9_holder_94 : decode cX9_holder 94 = .ok (.ifCond .eq 7, 3) := by decide +kernel
theorem dX9_holder_97 : decode cX9_holder 97 = .ok (.iload_n 3, 1) := by decide +kernel
theorem dX9_holder_98 : decode cX9_holder 98 = .ok (.goto 4, 3) := by decide +kernel
theorem dX9_holder_101 : decode cX9_holder 101 = .ok (.iload_n 2, 1) := by decide +kernel
theorem dX9_holder_102 : decode cX9_holder 102 = .ok (.istore_n 2, 1) := by decide +kernel
theorem dX9_holder_103 : decode cX9_holder 103 = .ok (.iinc 3 1, 3) := by decide +kernel
theorem dX9_holder_106 : decode cX9_holder 106 = .ok (.goto (-102), 3) := by decide +kernel
theorem dX9_holder_109 : decode cX9_holder 109 = .ok (.iload_n 2, 1) := by decide +kernel
theorem dX9_holder_110 : decode cX9_holder 110 = .ok (.ireturn, 1) := by decide +kernel
set_option maxRecDepth 20000 in
theorem ggX9_canDo_X9_many : GoodIn wsX9_canDo wsX9_many := goodIn_r _ [6, 7, 16, 17, 18, 19, 20, 21, 22, 23, 24, 25, 26, 27, 28, 29, 30, 31, 32, 33, 34, 35, 36, 37] (by decide +kernel) (by decide +kernel)
set_option maxRecDepth 20000 in
theorem gX9_canDo_X9_many : GoodIn wsX9_canDo (wsV RX9 73 RX9 yX9_many wsX9_many) := goodIn_app (goodIn_of _ (by decide +kernel)) ggX9_canDo_X9_many
set_option maxRecDepth 20000 in
theorem ggX9_canDo_X9_its : GoodIn wsX9_canDo wsX9_its := goodIn_r _ [11, 7, 16, 17, 18, 19, 20, 21, 22, 23, 24, 25, 26, 27, 28, 29, 30, 31, 32, 33, 34, 35, 36, 37] (by decide +kernel) (by decide +kernel)
set_option maxRecDepth 20000 in
theorem gX9_canDo_X9_its : GoodIn wsX9_canDo (wsV RX9 97 RX9 yX9_its wsX9_its) := goodIn_app (goodIn_of _ (by decide +kernel)) ggX9_canDo_X9_its
set_option maxRecDepth 20000 in
theorem ggX9_canDo_X9_holder : GoodIn wsX9_canDo wsX9_holder := goodIn_r _ [15, 1, 8, 9, 10, 5, 11, 7, 16, 17, 18, 19, 20, 21, 22, 23, 24, 25, 26, 27, 28, 29, 30, 31, 32, 33, 34, 35, 36, 37] (by decide +kernel) (by decide +kernel)
set_option maxRecDepth 20000 in
theorem gX9_canDo_X9_holder : GoodIn wsX9_canDo (wsV RX9 124 RX9 yX9_holder wsX9_holder) := goodIn_app (goodIn_of _ (by decide +kernel)) ggX9_canDo_X9_holder
theorem dX9_canDo_0 : decode cX9_canDo 0 = .ok (.aload_n 0, 1) := by decide +kernel
theorem dX9_canDo_1 : decode cX9_canDo 1 = .ok (.getfield 19, 3) := by decide +kernel
theorem dX9_canDo_4 : decode cX9_canDo 4 = .ok (.iload_n 1, 1) := by decide +kernel
theorem dX9_canDo_5 : decode cX9_canDo 5 = .ok (.iaload, 1) := by decide +kernel
theorem dX9_canDo_6 : decode cX9_canDo 6 = .ok (.aload_n 0, 1) := by decide +kernel
theorem dX9_canDo_7 : decode cX9_canDo 7 = .ok (.iload_n 1, 1) := by decide +kernel
theorem dX9_canDo_8 : decode cX9_canDo 8 = .ok (.invokevirtual 73, 3) := by decide +kernel
theorem dX9_canDo_11 : decode cX9_canDo 11 = .ok (.if_icmp .ne 5, 3) := by decide +kernel
theorem dX9_canDo_14 : decode cX9_canDo 14 = .ok (.iconst 0, 1) := by decide +kernel
