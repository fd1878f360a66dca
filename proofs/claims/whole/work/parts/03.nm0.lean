theorem dX0_init_0 : decode cX0_init 0 = .ok (.aload_n 0, 1) := by decide +kernel
theorem dX0_init_1 : decode cX0_init 1 = .ok (.invokespecial 3, 3) := by decide +kernel
theorem dX0_init_4 : decode cX0_init 4 = .ok (.aload_n 0, 1) := by decide +kernel
theorem dX0_init_5 : decode cX0_init 5 = .ok (.bipush 16, 2) := by decide +kernel
theorem dX0_init_7 : decode cX0_init 7 = .ok (.newarray .int, 2) := by decide +kernel
theorem dX0_init_9 : decode cX0_init 9 = .ok (.putfield 9, 3) := by decide +kernel
theorem dX0_init_12 : decode cX0_init 12 = .ok (.aload_n 0, 1) := by decide +kernel
theorem dX0_init_13 : decode cX0_init 13 = .ok (.bipush 16, 2) := by decide +kernel
theorem dX0_init_15 : decode cX0_init 15 = .ok (.newarray .int, 2) := by decide +kernel
theorem dX0_init_17 : decode cX0_init 17 = .ok (.putfield 15, 3) := by decide +kernel
theorem dX0_init_20 : decode cX0_init 20 = .ok (.return_, 1) := by decide +kernel
set_option maxRecDepth 20000 in
theorem ggX0_inStep_X4_size : GoodIn wsX0_inStep wsX4_size := goodIn_r _ [9, 10, 50, 51] (by decide +kernel) (by decide +kernel)
set_option maxRecDepth 20000 in
theorem gX0_inStep_X4_size : GoodIn wsX0_inStep (wsV RX0 18 RX4 yX4_size wsX4_size) := goodIn_app (goodIn_of _ (by decide +kernel)) ggX0_inStep_X4_size
set_option maxRecDepth 20000 in
theorem ggX0_inStep_X4_endsLetter : GoodIn wsX0_inStep wsX4_endsLetter := goodIn_r _ [14, 10, 15, 16, 17, 8, 18, 19, 50, 51] (by decide +kernel) (by decide +kernel)
set_option maxRecDepth 20000 in
theorem gX0_inStep_X4_endsLetter : GoodIn wsX0_inStep (wsV RX0 24 RX4 yX4_endsLetter wsX4_endsLetter) := goodIn_app (goodIn_of _ (by decide +kernel)) ggX0_inStep_X4_endsLetter
set_option maxRecDepth 20000 in
theorem ggX0_inStep_X4_from : GoodIn wsX0_inStep wsX4_from := goodIn_r _ [23, 15, 16, 17, 8, 18, 10, 19, 50, 51] (by decide +kernel) (by decide +kernel)
set_option maxRecDepth 20000 in
theorem gX0_inStep_X4_from : GoodIn wsX0_inStep (wsV RX0 28 RX4 yX4_from wsX4_from) := goodIn_app (goodIn_of _ (by decide +kernel)) ggX0_inStep_X4_from
set_option maxRecDepth 20000 in
theorem ggX0_inStep_X4_to : GoodIn wsX0_inStep wsX4_to := goodIn_r _ [27, 15, 16, 17, 8, 18, 10, 19, 50, 51] (by decide +kernel) (by decide +kernel)
set_option maxRecDepth 20000 in
theorem gX0_inStep_X4_to : GoodIn wsX0_inStep (wsV RX0 32 RX4 yX4_to wsX4_to) := goodIn_app (goodIn_of _ (by decide +kernel)) ggX0_inStep_X4_to
set_option maxRecDepth 20000 in
theorem ggX0_inStep_X3_letterTicks : GoodIn wsX0_inStep wsX3_letterTicks := goodIn_r _ [32, 33, 34, 35, 36, 37, 31, 38, 39, 40, 41, 52, 53, 54, 55, 56, 57, 58, 59, 60] (by decide +kernel) (by decide +kernel)
set_option maxRecDepth 20000 in
theorem gX0_inStep_X3_letterTicks : GoodIn wsX0_inStep (wsV RX0 35 RX3 yX3_letterTicks wsX3_letterTicks) := goodIn_app (goodIn_of _ (by decide +kernel)) ggX0_inStep_X3_letterTicks
set_option maxRecDepth 20000 in
theorem ggX0_inStep_X4_endsStep : GoodIn wsX0_inStep wsX4_endsStep := goodIn_r _ [45, 10, 46, 47, 48, 8, 49, 15, 16, 17, 18, 19, 50, 51] (by decide +kernel) (by decide +kernel)
set_option maxRecDepth 20000 in
theorem gX0_inStep_X4_endsStep : GoodIn wsX0_inStep (wsV RX0 47 RX4 yX4_endsStep wsX4_endsStep) := goodIn_app (goodIn_of _ (by decide +kernel)) ggX0_inStep_X4_endsStep
theorem dX0_inStep_0 : decode cX0_inStep 0 = .ok (.iconst 0, 1) := by decide +kernel
theorem dX0_inStep_1 : decode cX0_inStep 1 = .ok (.istore_n 3, 1) := by decide +kernel
theorem dX0_inStep_2 : decode cX0_inStep 2 = .ok (.iconst 0, 1) := by decide +kernel
theorem dX0_inStep_3 : decode cX0_inStep 3 = .ok (.istore 4, 2) := by decide +kernel
theorem dX0_inStep_5 : decode cX0_inStep 5 = .ok (.iconst 0, 1) := by decide +kernel
theorem dX0_inStep_6 : decode cX0_inStep 6 = .ok (.istore 5, 2) := by decide +kernel
theorem dX0_inStep_8 : decode cX0_inStep 8 = .ok (.iconst 0, 1) := by decide +kernel
theorem dX0_inStep_9 : decode cX0_inStep 9 = .ok (.istore 6, 2) := by decide +kernel
theorem dX0_inStep_11 : decode cX0_inStep 11 = .ok (.iload 6, 2) := by decide +kernel
theorem dX0_inStep_13 : decode cX0_inStep 13 = .ok (.aload_n 1, 1) := by decide +kernel
theorem dX0_inStep_14 : decode cX0_inStep 14 = .ok (.invokevirtual 18, 3) := by decide +kernel
theorem dX0_inStep_17 : decode cX0_inStep 17 = .ok (.if_icmp .ge 66, 3) := by decide +kernel
theorem dX0_inStep_20 : decode cX0_inStep 20 = .ok (.iinc 5 1, 3) := by decide +kernel
theorem dX0_inStep_23 : decode cX0_inStep 23 = .ok (.aload_n 1, 1) := by decide +kernel
theorem dX0_inStep_24 : decode cX0_inStep 24 = .ok (.iload 6, 2) := by decide +kernel
theorem dX0_inStep_26 : decode cX0_inStep 26 = .ok (.invokevirtual 24, 3) := by decide +kernel
theorem dX0_inStep_29 : decode cX0_inStep 29 = .ok (.ifCond .eq 31, 3) := by decide +kernel
theorem dX0_inStep_32 : decode cX0_inStep 32 = .ok (.iload 4, 2) := by decide +kernel
theorem dX0_inStep_34 : decode cX0_inStep 34 = .ok (.aload_n 2, 1) := by decide +kernel
theorem dX0_inStep_35 : decode cX0_inStep 35 = .ok (.aload_n 1, 1) := by decide +kernel
theorem dX0_inStep_36 : decode cX0_inStep 36 = .ok (.iload 6, 2) := by decide +kernel
theorem dX0_inStep_38 : decode cX0_inStep 38 = .ok (.invokevirtual 28, 3) := by decide +kernel
theorem dX0_inStep_41 : decode cX0_inStep 41 = .ok (.aload_n 1, 1) := by decide +kernel
theorem dX0_inStep_42 : decode cX0_inStep 42 = .ok (.iload 6, 2) := by decide +kernel
theorem dX0_inStep_44 : decode cX0_inStep 44 = .ok (.invokevirtual 32, 3) := by decide +kernel
theorem dX0_inStep_47 : decode cX0_inStep 47 = .ok (.iload 5, 2) := by decide +kernel
theorem dX0_inStep_49 : decode cX0_inStep 49 = .ok (.invokevirtual 35, 3) := by decide +kernel
theorem dX0_inStep_52 : decode cX0_inStep 52 = .ok (.invokestatic 41, 3) := by decide +kernel
theorem dX0_inStep_55 : decode cX0_inStep 55 = .ok (.istore 4, 2) := by decide +kernel
theorem dX0_inStep_57 : decode cX0_inStep 57 = .ok (.iconst 0, 1) := by decide +kernel
theorem dX0_inStep_58 : decode cX0_inStep 58 = .ok (.istore 5, 2) := by decide +kernel
theorem dX0_inStep_60 : decode cX0_inStep 60 = .ok (.aload_n 1, 1) := by decide +kernel
theorem dX0_inStep_61 : decode cX0_inStep 61 = .ok (.iload 6, 2) := by decide +kernel
theorem dX0_inStep_63 : decode cX0_inStep 63 = .ok (.invokevirtual 47, 3) := by decide +kernel
theorem dX0_inStep_66 : decode cX0_inStep 66 = .ok (.ifCond .eq 11, 3) := by decide +kernel
theorem dX0_inStep_69 : decode cX0_inStep 69 = .ok (.iload_n 3, 1) := by decide +kernel
theorem dX0_inStep_70 : decode cX0_inStep 70 = .ok (.iload 4, 2) := by decide +kernel
theorem dX0_inStep_72 : decode cX0_inStep 72 = .ok (.iadd, 1) := by decide +kernel
theorem dX0_inStep_73 : decode cX0_inStep 73 = .ok (.istore_n 3, 1) := by decide +kernel
theorem dX0_inStep_74 : decode cX0_inStep 74 = .ok (.iconst 0, 1) := by decide +kernel
theorem dX0_inStep_75 : decode cX0_inStep 75 = .ok (.istore 4, 2) := by decide +kernel
theorem dX0_inStep_77 : decode cX0_inStep 77 = .ok (.iinc 6 1, 3) := by decide +kernel
theorem dX0_inStep_80 : decode cX0_inStep 80 = .ok (.goto (-69), 3) := by decide +kernel
theorem dX0_inStep_83 : decode cX0_inStep 83 = .ok (.iload_n 3, 1) := by decide +kernel
theorem dX0_inStep_84 : decode cX0_inStep 84 = .ok (.ireturn, 1) := by decide +kernel
set_option maxRecDepth 20000 in
theorem ggX0_endOf_X3_latenessOf : GoodIn wsX0_endOf wsX3_latenessOf := goodIn_r _ [11, 12, 13, 14, 15, 10, 16, 17, 77, 78, 79, 80, 81, 82, 83, 84, 85] (by decide +kernel) (by decide +kernel)
set_option maxRecDepth 20000 in
theorem gX0_endOf_X3_latenessOf : GoodIn wsX0_endOf (wsV RX0 50 RX3 yX3_latenessOf wsX3_latenessOf) := goodIn_app (goodIn_of _ (by decide +kernel)) ggX0_endOf_X3_latenessOf
set_option maxRecDepth 20000 in
theorem ggX0_endOf_X4_size : GoodIn wsX0_endOf wsX4_size := goodIn_r _ [22, 23, 86, 87] (by decide +kernel) (by decide +kernel)
set_option maxRecDepth 20000 in
theorem gX0_endOf_X4_size : GoodIn wsX0_endOf (wsV RX0 18 RX4 yX4_size wsX4_size) := goodIn_app (goodIn_of _ (by decide +kernel)) ggX0_endOf_X4_size
set_option maxRecDepth 20000 in
theorem ggX0_endOf_X4_endsLetter : GoodIn wsX0_endOf wsX4_endsLetter := goodIn_r _ [27, 23, 28, 29, 30, 21, 31, 32, 86, 87] (by decide +kernel) (by decide +kernel)
set_option maxRecDepth 20000 in
theorem gX0_endOf_X4_endsLetter : GoodIn wsX0_endOf (wsV RX0 24 RX4 yX4_endsLetter wsX4_endsLetter) := goodIn_app (goodIn_of _ (by decide +kernel)) ggX0_endOf_X4_endsLetter
set_option maxRecDepth 20000 in
theorem ggX0_endOf_X4_from : GoodIn wsX0_endOf wsX4_from := goodIn_r _ [36, 28, 29, 30, 21, 31, 23, 32, 86, 87] (by decide +kernel) (by decide +kernel)
set_option maxRecDepth 20000 in
theorem gX0_endOf_X4_from : GoodIn wsX0_endOf (wsV RX0 28 RX4 yX4_from wsX4_from) := goodIn_app (goodIn_of _ (by decide +kernel)) ggX0_endOf_X4_from
set_option maxRecDepth 20000 in
theorem ggX0_endOf_X4_to : GoodIn wsX0_endOf wsX4_to := goodIn_r _ [40, 28, 29, 30, 21, 31, 23, 32, 86, 87] (by decide +kernel) (by decide +kernel)
set_option maxRecDepth 20000 in
theorem gX0_endOf_X4_to : GoodIn wsX0_endOf (wsV RX0 32 RX4 yX4_to wsX4_to) := goodIn_app (goodIn_of _ (by decide +kernel)) ggX0_endOf_X4_to
set_option maxRecDepth 20000 in
theorem ggX0_endOf_X0_takeLetter : GoodIn wsX0_endOf wsX0_takeLetter := goodIn_r _ [45, 1, 46, 47, 48, 49, 2, 50, 51, 52, 10, 53, 13, 14, 15, 16, 17, 54, 55, 56, 57, 58, 59, 60, 61, 62, 63, 64, 65, 66, 75, 76, 77, 78, 79, 80, 81, 82, 83, 84, 85] (by decide +kernel) (by decide +kernel)
set_option maxRecDepth 20000 in
theorem gX0_endOf_X0_takeLetter : GoodIn wsX0_endOf (wsV RX0 53 RX0 yX0_takeLetter wsX0_takeLetter) := goodIn_app (goodIn_of _ (by decide +kernel)) ggX0_endOf_X0_takeLetter
set_option maxRecDepth 20000 in
theorem ggX0_endOf_X4_endsStep : GoodIn wsX0_endOf wsX4_endsStep := goodIn_r _ [70, 23, 71, 72, 73, 21, 74, 28, 29, 30, 31, 32, 86, 87] (by decide +kernel) (by decide +kernel)
set_option maxRecDepth 20000 in
theorem gX0_endOf_X4_endsStep : GoodIn wsX0_endOf (wsV RX0 47 RX4 yX4_endsStep wsX4_endsStep) := goodIn_app (goodIn_of _ (by decide +kernel)) ggX0_endOf_X4_endsStep
theorem dX0_endOf_0 : decode cX0_endOf 0 = .ok (.iconst 0, 1) := by decide +kernel
theorem dX0_endOf_1 : decode cX0_endOf 1 = .ok (.istore 4, 2) := by decide +kernel
theorem dX0_endOf_3 : decode cX0_endOf 3 = .ok (.iload 4, 2) := by decide +kernel
theorem dX0_endOf_5 : decode cX0_endOf 5 = .ok (.bipush 16, 2) := by decide +kernel
theorem dX0_endOf_7 : decode cX0_endOf 7 = .ok (.if_icmp .ge 36, 3) := by decide +kernel
theorem dX0_endOf_10 : decode cX0_endOf 10 = .ok (.aload_n 0, 1) := by decide +kernel
theorem dX0_endOf_11 : decode cX0_endOf 11 = .ok (.getfield 9, 3) := by decide +kernel
theorem dX0_endOf_14 : decode cX0_endOf 14 = .ok (.iload 4, 2) := by decide +kernel
theorem dX0_endOf_16 : decode cX0_endOf 16 = .ok (.aload_n 3, 1) := by decide +kernel
theorem dX0_endOf_17 : decode cX0_endOf 17 = .ok (.iload 4, 2) := by decide +kernel
theorem dX0_endOf_19 : decode cX0_endOf 19 = .ok (.invokevirtual 50, 3) := by decide +kernel
theorem dX0_endOf_22 : decode cX0_endOf 22 = .ok (.iastore, 1) := by decide +kernel
theorem dX0_endOf_23 : decode cX0_endOf 23 = .ok (.aload_n 0, 1) := by decide +kernel
theorem dX0_endOf_24 : decode cX0_endOf 24 = .ok (.getfield 15, 3) := by decide +kernel
theorem dX0_endOf_27 : decode cX0_endOf 27 = .ok (.iload 4, 2) := by decide +kernel
theorem dX0_endOf_29 : decode cX0_endOf 29 = .ok (.aload_n 0, 1) := by decide +kernel
theorem dX0_endOf_30 : decode cX0_endOf 30 = .ok (.getfield 9, 3) := by decide +kernel
theorem dX0_endOf_33 : decode cX0_endOf 33 = .ok (.iload 4, 2) := by decide +kernel
theorem dX0_endOf_35 : decode cX0_endOf 35 = .ok (.iaload, 1) := by decide +kernel
theorem dX0_endOf_36 : decode cX0_endOf 36 = .ok (.iastore, 1) := by decide +kernel
theorem dX0_endOf_37 : decode cX0_endOf 37 = .ok (.iinc 4 1, 3) := by decide +kernel
theorem dX0_endOf_40 : decode cX0_endOf 40 = .ok (.goto (-37), 3) := by decide +kernel
theorem dX0_endOf_43 : decode cX0_endOf 43 = .ok (.iconst 0, 1) := by decide +kernel
theorem dX0_endOf_44 : decode cX0_endOf 44 = .ok (.istore 4, 2) := by decide +kernel
theorem dX0_endOf_46 : decode cX0_endOf 46 = .ok (.iconst 0, 1) := by decide +kernel
theorem dX0_endOf_47 : decode cX0_endOf 47 = .ok (.istore 5, 2) := by decide +kernel
theorem dX0_endOf_49 : decode cX0_endOf 49 = .ok (.iload 5, 2) := by decide +kernel
theorem dX0_endOf_51 : decode cX0_endOf 51 = .ok (.aload_n 2, 1) := by decide +kernel
theorem dX0_endOf_52 : decode cX0_endOf 52 = .ok (.invokevirtual 18, 3) := by decide +kernel
theorem dX0_endOf_55 : decode cX0_endOf 55 = .ok (.if_icmp .ge 67, 3) := by decide +kernel
theorem dX0_endOf_58 : decode cX0_endOf 58 = .ok (.iinc 4 1, 3) := by decide +kernel
theorem dX0_endOf_61 : decode cX0_endOf 61 = .ok (.aload_n 2, 1) := by decide +kernel
theorem dX0_endOf_62 : decode cX0_endOf 62 = .ok (.iload 5, 2) := by decide +kernel
theorem dX0_endOf_64 : decode cX0_endOf 64 = .ok (.invokevirtual 24, 3) := by decide +kernel
theorem dX0_endOf_67 : decode cX0_endOf 67 = .ok (.ifCond .eq 25, 3) := by decide +kernel
theorem dX0_endOf_70 : decode cX0_endOf 70 = .ok (.aload_n 0, 1) := by decide +kernel
theorem dX0_endOf_71 : decode cX0_endOf 71 = .ok (.aload_n 2, 1) := by decide +kernel
theorem dX0_endOf_72 : decode cX0_endOf 72 = .ok (.iload 5, 2) := by decide +kernel
theorem dX0_endOf_74 : decode cX0_endOf 74 = .ok (.invokevirtual 28, 3) := by decide +kernel
theorem dX0_endOf_77 : decode cX0_endOf 77 = .ok (.aload_n 2, 1) := by decide +kernel
theorem dX0_endOf_78 : decode cX0_endOf 78 = .ok (.iload 5, 2) := by decide +kernel
theorem dX0_endOf_80 : decode cX0_endOf 80 = .ok (.invokevirtual 32, 3) := by decide +kernel
theorem dX0_endOf_83 : decode cX0_endOf 83 = .ok (.aload_n 3, 1) := by decide +kernel
theorem dX0_endOf_84 : decode cX0_endOf 84 = .ok (.iload 4, 2) := by decide +kernel
theorem dX0_endOf_86 : decode cX0_endOf 86 = .ok (.invokevirtual 53, 3) := by decide +kernel
theorem dX0_endOf_89 : decode cX0_endOf 89 = .ok (.iconst 0, 1) := by decide +kernel
theorem dX0_endOf_90 : decode cX0_endOf 90 = .ok (.istore 4, 2) := by decide +kernel
theorem dX0_endOf_92 : decode cX0_endOf 92 = .ok (.aload_n 2, 1) := by decide +kernel
theorem dX0_endOf_93 : decode cX0_endOf 93 = .ok (.iload 5, 2) := by decide +kernel
theorem dX0_endOf_95 : decode cX0_endOf 95 = .ok (.invokevirtual 47, 3) := by decide +kernel
theorem dX0_endOf_98 : decode cX0_endOf 98 = .ok (.ifCond .eq 18, 3) := by decide +kernel
theorem dX0_endOf_101 : decode cX0_endOf 101 = .ok (.aload_n 0, 1) := by decide +kernel
theorem dX0_endOf_102 : decode cX0_endOf 102 = .ok (.getfield 15, 3) := by decide +kernel
theorem dX0_endOf_105 : decode cX0_endOf 105 = .ok (.iconst 0, 1) := by decide +kernel
theorem dX0_endOf_106 : decode cX0_endOf 106 = .ok (.aload_n 0, 1) := by decide +kernel
theorem dX0_endOf_107 : decode cX0_endOf 107 = .ok (.getfield 9, 3) := by decide +kernel
theorem dX0_endOf_110 : decode cX0_endOf 110 = .ok (.iconst 0, 1) := by decide +kernel
theorem dX0_endOf_111 : decode cX0_endOf 111 = .ok (.bipush 16, 2) := by decide +kernel
theorem dX0_endOf_113 : decode cX0_endOf 113 = .ok (.invokestatic 57, 3) := by decide +kernel
theorem dX0_endOf_116 : decode cX0_endOf 116 = .ok (.iinc 5 1, 3) := by decide +kernel
theorem dX0_endOf_119 : decode cX0_endOf 119 = .ok (.goto (-70), 3) := by decide +kernel
theorem dX0_endOf_122 : decode cX0_endOf 122 = .ok (.iload_n 1, 1) := by decide +kernel
theorem dX0_endOf_123 : decode cX0_endOf 123 = .ok (.ifCond .lt 18, 3) := by decide +kernel
theorem dX0_endOf_126 : decode cX0_endOf 126 = .ok (.iload_n 1, 1) := by decide +kernel
theorem dX0_endOf_127 : decode cX0_endOf 127 = .ok (.bipush 16, 2) := by decide +kernel
theorem dX0_endOf_129 : decode cX0_endOf 129 = .ok (.if_icmp .ge 12, 3) := by decide +kernel
theorem dX0_endOf_132 : decode cX0_endOf 132 = .ok (.aload_n 0, 1) := by decide +kernel
theorem dX0_endOf_133 : decode cX0_endOf 133 = .ok (.getfield 15, 3) := by decide +kernel
theorem dX0_endOf_136 : decode cX0_endOf 136 = .ok (.iload_n 1, 1) := by decide +kernel
theorem dX0_endOf_137 : decode cX0_endOf 137 = .ok (.iaload, 1) := by decide +kernel
theorem dX0_endOf_138 : decode cX0_endOf 138 = .ok (.goto 4, 3) := by decide +kernel
theorem dX0_endOf_141 : decode cX0_endOf 141 = .ok (.iconst (-1), 1) := by decide +kernel
theorem dX0_endOf_142 : decode cX0_endOf 142 = .ok (.ireturn, 1) := by decide +kernel
set_option maxRecDepth 20000 in
theorem ggX0_takeLetter_X3_isPair : GoodIn wsX0_takeLetter wsX3_isPair := goodIn_r _ [11, 12, 13, 14, 10, 15, 16, 32, 33, 34, 35, 36, 37, 38, 39, 40] (by decide +kernel) (by decide +kernel)
set_option maxRecDepth 20000 in
theorem gX0_takeLetter_X3_isPair : GoodIn wsX0_takeLetter (wsV RX0 63 RX3 yX3_isPair wsX3_isPair) := goodIn_app (goodIn_of _ (by decide +kernel)) ggX0_takeLetter_X3_isPair
set_option maxRecDepth 20000 in
theorem ggX0_takeLetter_X3_letterTicks : GoodIn wsX0_takeLetter wsX3_letterTicks := goodIn_r _ [20, 21, 22, 23, 24, 25, 10, 26, 27, 28, 29, 32, 33, 34, 35, 36, 37, 38, 39, 40] (by decide +kernel) (by decide +kernel)
set_option maxRecDepth 20000 in
theorem gX0_takeLetter_X3_letterTicks : GoodIn wsX0_takeLetter (wsV RX0 35 RX3 yX3_letterTicks wsX3_letterTicks) := goodIn_app (goodIn_of _ (by decide +kernel)) ggX0_takeLetter_X3_letterTicks
theorem dX0_takeLetter_0 : decode cX0_takeLetter 0 = .ok (.aload_n 3, 1) := by decide +kernel
theorem dX0_takeLetter_1 : decode cX0_takeLetter 1 = .ok (.iload_n 1, 1) := by decide +kernel
theorem dX0_takeLetter_2 : decode cX0_takeLetter 2 = .ok (.iload_n 2, 1) := by decide +kernel
theorem dX0_takeLetter_3 : decode cX0_takeLetter 3 = .ok (.invokevirtual 63, 3) := by decide +kernel
theorem dX0_takeLetter_6 : decode cX0_takeLetter 6 = .ok (.ifCond .ne 4, 3) := by decide +kernel
theorem dX0_takeLetter_9 : decode cX0_takeLetter 9 = .ok (.return_, 1) := by decide +kernel
theorem dX0_takeLetter_10 : decode cX0_takeLetter 10 = .ok (.aload_n 0, 1) := by decide +kernel
theorem dX0_takeLetter_11 : decode cX0_takeLetter 11 = .ok (.getfield 9, 3) := by decide +kernel
theorem dX0_takeLetter_14 : decode cX0_takeLetter 14 = .ok (.iload_n 1, 1) := by decide +kernel
theorem dX0_takeLetter_15 : decode cX0_takeLetter 15 = .ok (.iaload, 1) := by decide +kernel
theorem dX0_takeLetter_16 : decode cX0_takeLetter 16 = .ok (.aload_n 0, 1) := by decide +kernel
theorem dX0_takeLetter_17 : decode cX0_takeLetter 17 = .ok (.getfield 9, 3) := by decide +kernel
theorem dX0_takeLetter_20 : decode cX0_takeLetter 20 = .ok (.iload_n 2, 1) := by decide +kernel
theorem dX0_takeLetter_21 : decode cX0_takeLetter 21 = .ok (.iaload, 1) := by decide +kernel
theorem dX0_takeLetter_22 : decode cX0_takeLetter 22 = .ok (.invokestatic 41, 3) := by decide +kernel
theorem dX0_takeLetter_25 : decode cX0_takeLetter 25 = .ok (.aload_n 3, 1) := by decide +kernel
theorem dX0_takeLetter_26 : decode cX0_takeLetter 26 = .ok (.iload_n 1, 1) := by decide +kernel
theorem dX0_takeLetter_27 : decode cX0_takeLetter 27 = .ok (.iload_n 2, 1) := by decide +kernel
theorem dX0_takeLetter_28 : decode cX0_takeLetter 28 = .ok (.iload 4, 2) := by decide +kernel
theorem dX0_takeLetter_30 : decode cX0_takeLetter 30 = .ok (.invokevirtual 35, 3) := by decide +kernel
theorem dX0_takeLetter_33 : decode cX0_takeLetter 33 = .ok (.iadd, 1) := by decide +kernel
theorem dX0_takeLetter_34 : decode cX0_takeLetter 34 = .ok (.istore 5, 2) := by decide +kernel
theorem dX0_takeLetter_36 : decode cX0_takeLetter 36 = .ok (.aload_n 0, 1) := by decide +kernel
theorem dX0_takeLetter_37 : decode cX0_takeLetter 37 = .ok (.getfield 15, 3) := by decide +kernel
theorem dX0_takeLetter_40 : decode cX0_takeLetter 40 = .ok (.iload_n 1, 1) := by decide +kernel
theorem dX0_takeLetter_41 : decode cX0_takeLetter 41 = .ok (.aload_n 0, 1) := by decide +kernel
theorem dX0_takeLetter_42 : decode cX0_takeLetter 42 = .ok (.getfield 15, 3) := by decide +kernel
theorem dX0_takeLetter_45 : decode cX0_takeLetter 45 = .ok (.iload_n 1, 1) := by decide +kernel
theorem dX0_takeLetter_46 : decode cX0_takeLetter 46 = .ok (.iaload, 1) := by decide +kernel
theorem dX0_takeLetter_47 : decode cX0_takeLetter 47 = .ok (.iload 5, 2) := by decide +kernel
theorem dX0_takeLetter_49 : decode cX0_takeLetter 49 = .ok (.invokestatic 41, 3) := by decide +kernel
theorem dX0_takeLetter_52 : decode cX0_takeLetter 52 = .ok (.iastore, 1) := by decide +kernel
theorem dX0_takeLetter_53 : decode cX0_takeLetter 53 = .ok (.aload_n 0, 1) := by decide +kernel
theorem dX0_takeLetter_54 : decode cX0_takeLetter 54 = .ok (.getfield 15, 3) := by decide +kernel
theorem dX0_takeLetter_57 : decode cX0_takeLetter 57 = .ok (.iload_n 2, 1) := by decide +kernel
theorem dX0_takeLetter_58 : decode cX0_takeLetter 58 = .ok (.aload_n 0, 1) := by decide +kernel
theorem dX0_takeLetter_59 : decode cX0_takeLetter 59 = .ok (.getfield 15, 3) := by decide +kernel
theorem dX0_takeLetter_62 : decode cX0_takeLetter 62 = .ok (.iload_n 2, 1) := by decide +kernel
theorem dX0_takeLetter_63 : decode cX0_takeLetter 63 = .ok (.iaload, 1) := by decide +kernel
theorem dX0_takeLetter_64 : decode cX0_takeLetter 64 = .ok (.iload 5, 2) := by decide +kernel
theorem dX0_takeLetter_66 : decode cX0_takeLetter 66 = .ok (.invokestatic 41, 3) := by decide +kernel
theorem dX0_takeLetter_69 : decode cX0_takeLetter 69 = .ok (.iastore, 1) := by decide +kernel
theorem dX0_takeLetter_70 : decode cX0_takeLetter 70 = .ok (.return_, 1) := by decide +kernel
theorem dX1_init_0 : decode cX1_init 0 = .ok (.aload_n 0, 1) := by decide +kernel
theorem dX1_init_1 : decode cX1_init 1 = .ok (.invokespecial 1, 3) := by decide +kernel
theorem dX1_init_4 : decode cX1_init 4 = .ok (.return_, 1) := by decide +kernel
set_option maxRecDepth 20000 in
theorem ggX1_follow_X4_size : GoodIn wsX1_follow wsX4_size := goodIn_r _ [5, 6, 92, 93] (by decide +kernel) (by decide +kernel)
set_option maxRecDepth 20000 in
theorem gX1_follow_X4_size : GoodIn wsX1_follow (wsV RX1 7 RX4 yX4_size wsX4_size) := goodIn_app (goodIn_of _ (by decide +kernel)) ggX1_follow_X4_size
set_option maxRecDepth 20000 in
theorem ggX1_follow_X4_source : GoodIn wsX1_follow wsX4_source := goodIn_r _ [10, 11, 12, 13, 4, 14, 15, 16, 17, 18, 6, 19, 20, 21, 22, 23, 24, 25, 26, 92, 93] (by decide +kernel) (by decide +kernel)
set_option maxRecDepth 20000 in
theorem gX1_follow_X4_source : GoodIn wsX1_follow (wsV RX1 13 RX4 yX4_source wsX4_source) := goodIn_app (goodIn_of _ (by decide +kernel)) ggX1_follow_X4_source
set_option maxRecDepth 20000 in
theorem ggX1_follow_X4_target : GoodIn wsX1_follow wsX4_target := goodIn_r _ [30, 31, 32, 33, 4, 34, 15, 16, 17, 18, 6, 19, 35, 36, 37, 38, 24, 25, 26, 92, 93] (by decide +kernel) (by decide +kernel)
set_option maxRecDepth 20000 in
theorem gX1_follow_X4_target : GoodIn wsX1_follow (wsV RX1 17 RX4 yX4_target wsX4_target) := goodIn_app (goodIn_of _ (by decide +kernel)) ggX1_follow_X4_target
set_option maxRecDepth 20000 in
theorem ggX1_follow_X2_takeUp : GoodIn wsX1_follow wsX2_takeUp := goodIn_r _ [44, 45, 46, 47, 25, 48, 94, 95] (by decide +kernel) (by decide +kernel)
set_option maxRecDepth 20000 in
theorem gX1_follow_X2_takeUp_u20X2 : GoodIn wsX1_follow (va_wsU RX1 20 RX2 "SumsToAll$Follower" ⟨"SumsToAll$Follower", "takeUp", "(II)V"⟩ yX2_takeUp wsX2_takeUp) := goodIn_app (goodIn_of _ (by decide +kernel)) ggX1_follow_X2_takeUp
set_option maxRecDepth 20000 in
theorem ggX1_follow_X6_takeUp : GoodIn wsX1_follow wsX6_takeUp := goodIn_r _ [52, 53, 54, 55, 56, 47, 25, 48, 96, 97, 98, 99, 100] (by decide +kernel) (by decide +kernel)
set_option maxRecDepth 20000 in
theorem gX1_follow_X6_takeUp_u20X6 : GoodIn wsX1_follow (va_wsU RX1 20 RX6 "SumsToAll$Follower" ⟨"SumsToAll$Follower", "takeUp", "(II)V"⟩ yX6_takeUp wsX6_takeUp) := goodIn_app (goodIn_of _ (by decide +kernel)) ggX1_follow_X6_takeUp
set_option maxRecDepth 20000 in
theorem ggX1_follow_X4_endsStep : GoodIn wsX1_follow wsX4_endsStep := goodIn_r _ [60, 6, 61, 62, 63, 4, 64, 15, 16, 17, 18, 19, 92, 93] (by decide +kernel) (by decide +kernel)
set_option maxRecDepth 20000 in
theorem gX1_follow_X4_endsStep : GoodIn wsX1_follow (wsV RX1 26 RX4 yX4_endsStep wsX4_endsStep) := goodIn_app (goodIn_of _ (by decide +kernel)) ggX1_follow_X4_endsStep
set_option maxRecDepth 20000 in
theorem ggX1_follow_X1_bringDown : GoodIn wsX1_follow wsX1_bringDown := goodIn_r _ [70, 71, 72, 73, 4, 74, 15, 16, 17, 18, 6, 19, 27, 28, 29, 30, 31, 32, 33, 34, 35, 36, 37, 38, 24, 25, 26, 75, 76, 77, 78, 43, 79, 46, 45, 47, 48, 80, 81, 51, 82, 56, 55, 54, 53, 83, 84, 85, 86, 87, 88, 89, 90, 92, 93, 94, 95, 96, 97, 98, 99, 100] (by decide +kernel) (by decide +kernel)
set_option maxRecDepth 20000 in
theorem gX1_follow_X1_bringDown_u30X2 : GoodIn wsX1_follow (va_wsU RX1 30 RX2 "SumsToAll$Follower" ⟨"SumsToAll$Follower", "bringDown", "(LSumsToAll$Plan;II)V"⟩ yX1_bringDown wsX1_bringDown) := goodIn_app (goodIn_of _ (by decide +kernel)) ggX1_follow_X1_bringDown
set_option maxRecDepth 20000 in
theorem gX1_follow_X1_bringDown_u30X6 : GoodIn wsX1_follow (va_wsU RX1 30 RX6 "SumsToAll$Follower" ⟨"SumsToAll$Follower", "bringDown", "(LSumsToAll$Plan;II)V"⟩ yX1_bringDown wsX1_bringDown) := goodIn_app (goodIn_of _ (by decide +kernel)) ggX1_follow_X1_bringDown
theorem dX1_follow_0 : decode cX1_follow 0 = .ok (.iconst 0, 1) := by decide +kernel
theorem dX1_follow_1 : decode cX1_follow 1 = .ok (.istore_n 2, 1) := by decide +kernel
theorem dX1_follow_2 : decode cX1_follow 2 = .ok (.iconst 0, 1) := by decide +kernel
theorem dX1_follow_3 : decode cX1_follow 3 = .ok (.istore_n 3, 1) := by decide +kernel
theorem dX1_follow_4 : decode cX1_follow 4 = .ok (.iload_n 3, 1) := by decide +kernel
theorem dX1_follow_5 : decode cX1_follow 5 = .ok (.aload_n 1, 1) := by decide +kernel
theorem dX1_follow_6 : decode cX1_follow 6 = .ok (.invokevirtual 7, 3) := by decide +kernel
theorem dX1_follow_9 : decode cX1_follow 9 = .ok (.if_icmp .ge 42, 3) := by decide +kernel
theorem dX1_follow_12 : decode cX1_follow 12 = .ok (.aload_n 0, 1) := by decide +kernel
theorem dX1_follow_13 : decode cX1_follow 13 = .ok (.aload_n 1, 1) := by decide +kernel
theorem dX1_follow_14 : decode cX1_follow 14 = .ok (.iload_n 3, 1) := by decide +kernel
theorem dX1_follow_15 : decode cX1_follow 15 = .ok (.invokevirtual 13, 3) := by decide +kernel
theorem dX1_follow_18 : decode cX1_follow 18 = .ok (.aload_n 1, 1) := by decide +kernel
theorem dX1_follow_19 : decode cX1_follow 19 = .ok (.iload_n 3, 1) := by decide +kernel
theorem dX1_follow_20 : decode cX1_follow 20 = .ok (.invokevirtual 17, 3) := by decide +kernel
theorem dX1_follow_23 : decode cX1_follow 23 = .ok (.invokevirtual 20, 3) := by decide +kernel
theorem dX1_follow_26 : decode cX1_follow 26 = .ok (.aload_n 1, 1) := by decide +kernel
theorem dX1_follow_27 : decode cX1_follow 27 = .ok (.iload_n 3, 1) := by decide +kernel
theorem dX1_follow_28 : decode cX1_follow 28 = .ok (.invokevirtual 26, 3) := by decide +kernel
theorem dX1_follow_31 : decode cX1_follow 31 = .ok (.ifCond .eq 14, 3) := by decide +kernel
theorem dX1_follow_34 : decode cX1_follow 34 = .ok (.aload_n 0, 1) := by decide +kernel
theorem dX1_follow_35 : decode cX1_follow 35 = .ok (.aload_n 1, 1) := by decide +kernel
theorem dX1_follow_36 : decode cX1_follow 36 = .ok (.iload_n 2, 1) := by decide +kernel
theorem dX1_follow_37 : decode cX1_follow 37 = .ok (.iload_n 3, 1) := by decide +kernel
theorem dX1_follow_38 : decode cX1_follow 38 = .ok (.invokevirtual 30, 3) := by decide +kernel
theorem dX1_follow_41 : decode cX1_follow 41 = .ok (.iload_n 3, 1) := by decide +kernel
theorem dX1_follow_42 : decode cX1_follow 42 = .ok (.iconst 1, 1) := by decide +kernel
theorem dX1_follow_43 : decode cX1_follow 43 = .ok (.iadd, 1) := by decide +kernel
theorem dX1_follow_44 : decode cX1_follow 44 = .ok (.istore_n 2, 1) := by decide +kernel
theorem dX1_follow_45 : decode cX1_follow 45 = .ok (.iinc 3 1, 3) := by decide +kernel
theorem dX1_follow_48 : decode cX1_follow 48 = .ok (.goto (-44), 3) := by decide +kernel
theorem dX1_follow_51 : decode cX1_follow 51 = .ok (.return_, 1) := by decide +kernel
set_option maxRecDepth 20000 in
theorem ggX1_bringDown_X4_isAdded : GoodIn wsX1_bringDown wsX4_isAdded := goodIn_r _ [5, 6, 7, 8, 4, 9, 10, 11, 53, 54] (by decide +kernel) (by decide +kernel)
set_option maxRecDepth 20000 in
theorem gX1_bringDown_X4_isAdded : GoodIn wsX1_bringDown (wsV RX1 34 RX4 yX4_isAdded wsX4_isAdded) := goodIn_app (goodIn_of _ (by decide +kernel)) ggX1_bringDown_X4_isAdded
set_option maxRecDepth 20000 in
theorem ggX1_bringDown_X4_target : GoodIn wsX1_bringDown wsX4_target := goodIn_r _ [15, 16, 17, 18, 4, 19, 6, 7, 8, 9, 10, 11, 20, 21, 22, 23, 24, 25, 26, 53, 54] (by decide +kernel) (by decide +kernel)
set_option maxRecDepth 20000 in
theorem gX1_bringDown_X4_target : GoodIn wsX1_bringDown (wsV RX1 17 RX4 yX4_target wsX4_target) := goodIn_app (goodIn_of _ (by decide +kernel)) ggX1_bringDown_X4_target
set_option maxRecDepth 20000 in
theorem ggX1_bringDown_X2_addDown : GoodIn wsX1_bringDown wsX2_addDown := goodIn_r _ [32, 33, 34, 35, 25, 36, 55, 56] (by decide +kernel) (by decide +kernel)
set_option maxRecDepth 20000 in
theorem gX1_bringDown_X2_addDown_u37X2 : GoodIn wsX1_bringDown (va_wsU RX1 37 RX2 "SumsToAll$Follower" ⟨"SumsToAll$Follower", "addDown", "(I)V"⟩ yX2_addDown wsX2_addDown) := goodIn_app (goodIn_of _ (by decide +kernel)) ggX1_bringDown_X2_addDown
set_option maxRecDepth 20000 in
theorem ggX1_bringDown_X6_addDown : GoodIn wsX1_bringDown wsX6_addDown := goodIn_r _ [40, 41, 42, 43, 44, 35, 25, 36, 57, 58, 59, 60, 61] (by decide +kernel) (by decide +kernel)
set_option maxRecDepth 20000 in
theorem gX1_bringDown_X6_addDown_u37X6 : GoodIn wsX1_bringDown (va_wsU RX1 37 RX6 "SumsToAll$Follower" ⟨"SumsToAll$Follower", "addDown", "(I)V"⟩ yX6_addDown wsX6_addDown) := goodIn_app (goodIn_of _ (by decide +kernel)) ggX1_bringDown_X6_addDown
set_option maxRecDepth 20000 in
theorem ggX1_bringDown_X2_putDown : GoodIn wsX1_bringDown wsX2_putDown := goodIn_r _ [49, 33, 34, 35, 25, 36, 55, 56] (by decide +kernel) (by decide +kernel)
set_option maxRecDepth 20000 in
theorem gX1_bringDown_X2_putDown_u41X2 : GoodIn wsX1_bringDown (va_wsU RX1 41 RX2 "SumsToAll$Follower" ⟨"SumsToAll$Follower", "putDown", "(I)V"⟩ yX2_putDown wsX2_putDown) := goodIn_app (goodIn_of _ (by decide +kernel)) ggX1_bringDown_X2_putDown
set_option maxRecDepth 20000 in
theorem ggX1_bringDown_X6_putDown : GoodIn wsX1_bringDown wsX6_putDown := goodIn_r _ [52, 43, 44, 41, 42, 35, 25, 36, 57, 58, 59, 60, 61] (by decide +kernel) (by decide +kernel)
set_option maxRecDepth 20000 in
theorem gX1_bringDown_X6_putDown_u41X6 : GoodIn wsX1_bringDown (va_wsU RX1 41 RX6 "SumsToAll$Follower" ⟨"SumsToAll$Follower", "putDown", "(I)V"⟩ yX6_putDown wsX6_putDown) := goodIn_app (goodIn_of _ (by decide +kernel)) ggX1_bringDown_X6_putDown
theorem dX1_bringDown_0 : decode cX1_bringDown 0 = .ok (.iload_n 2, 1) := by decide +kernel
theorem dX1_bringDown_1 : decode cX1_bringDown 1 = .ok (.istore 4, 2) := by decide +kernel
theorem dX1_bringDown_3 : decode cX1_bringDown 3 = .ok (.iload 4, 2) := by decide +kernel
theorem dX1_bringDown_5 : decode cX1_bringDown 5 = .ok (.iload_n 3, 1) := by decide +kernel
theorem dX1_bringDown_6 : decode cX1_bringDown 6 = .ok (.if_icmp .gt 41, 3) := by decide +kernel
theorem dX1_bringDown_9 : decode cX1_bringDown 9 = .ok (.aload_n 1, 1) := by decide +kernel
theorem dX1_bringDown_10 : decode cX1_bringDown 10 = .ok (.iload 4, 2) := by decide +kernel
theorem dX1_bringDown_12 : decode cX1_bringDown 12 = .ok (.invokevirtual 34, 3) := by decide +kernel
theorem dX1_bringDown_15 : decode cX1_bringDown 15 = .ok (.ifCond .eq 16, 3) := by decide +kernel
theorem dX1_bringDown_18 : decode cX1_bringDown 18 = .ok (.aload_n 0, 1) := by decide +kernel
theorem dX1_bringDown_19 : decode cX1_bringDown 19 = .ok (.aload_n 1, 1) := by decide +kernel
theorem dX1_bringDown_20 : decode cX1_bringDown 20 = .ok (.iload 4, 2) := by decide +kernel
theorem dX1_bringDown_22 : decode cX1_bringDown 22 = .ok (.invokevirtual 17, 3) := by decide +kernel
theorem dX1_bringDown_25 : decode cX1_bringDown 25 = .ok (.invokevirtual 37, 3) := by decide +kernel
theorem dX1_bringDown_28 : decode cX1_bringDown 28 = .ok (.goto 13, 3) := by decide +kernel
theorem dX1_bringDown_31 : decode cX1_bringDown 31 = .ok (.aload_n 0, 1) := by decide +kernel
theorem dX1_bringDown_32 : decode cX1_bringDown 32 = .ok (.aload_n 1, 1) := by decide +kernel
theorem dX1_bringDown_33 : decode cX1_bringDown 33 = .ok (.iload 4, 2) := by decide +kernel
theorem dX1_bringDown_35 : decode cX1_bringDown 35 = .ok (.invokevirtual 17, 3) := by decide +kernel
theorem dX1_bringDown_38 : decode cX1_bringDown 38 = .ok (.invokevirtual 41, 3) := by decide +kernel
theorem dX1_bringDown_41 : decode cX1_bringDown 41 = .ok (.iinc 4 1, 3) := by decide +kernel
theorem dX1_bringDown_44 : decode cX1_bringDown 44 = .ok (.goto (-41), 3) := by decide +kernel
theorem dX1_bringDown_47 : decode cX1_bringDown 47 = .ok (.return_, 1) := by decide +kernel
set_option maxRecDepth 20000 in
theorem ggX2_init_X1_init : GoodIn wsX2_init wsX1_init := goodIn_r _ [6, 7, 8, 9] (by decide +kernel) (by decide +kernel)
set_option maxRecDepth 20000 in
theorem gX2_init_X1_init_n3 : GoodIn wsX2_init (wsX1_init) := ggX2_init_X1_init
theorem dX2_init_0 : decode cX2_init 0 = .ok (.aload_n 0, 1) := by decide +kernel
theorem dX2_init_1 : decode cX2_init 1 = .ok (.invokespecial 3, 3) := by decide +kernel
theorem dX2_init_4 : decode cX2_init 4 = .ok (.aload_n 0, 1) := by decide +kernel
theorem dX2_init_5 : decode cX2_init 5 = .ok (.sipush 256, 3) := by decide +kernel
theorem dX2_init_8 : decode cX2_init 8 = .ok (.newarray .int, 2) := by decide +kernel
theorem dX2_init_10 : decode cX2_init 10 = .ok (.putfield 9, 3) := by decide +kernel
theorem dX2_init_13 : decode cX2_init 13 = .ok (.aload_n 0, 1) := by decide +kernel
theorem dX2_init_14 : decode cX2_init 14 = .ok (.sipush 256, 3) := by decide +kernel
theorem dX2_init_17 : decode cX2_init 17 = .ok (.newarray .int, 2) := by decide +kernel
theorem dX2_init_19 : decode cX2_init 19 = .ok (.putfield 15, 3) := by decide +kernel
theorem dX2_init_22 : decode cX2_init 22 = .ok (.return_, 1) := by decide +kernel
set_option maxRecDepth 20000 in
theorem ggX2_zero_J7_fill_53178 : GoodIn wsX2_zero wsJ7_fill_53178 := goodIn_r _ [5] (by decide +kernel) (by decide +kernel)
set_option maxRecDepth 20000 in
theorem gX2_zero_J7_fill_53178 : GoodIn wsX2_zero (va_wsS RX2 18 yJ7_fill_53178 wsJ7_fill_53178) := goodIn_app (goodIn_of _ (by decide +kernel)) ggX2_zero_J7_fill_53178
theorem dX2_zero_0 : decode cX2_zero 0 = .ok (.aload_n 0, 1) := by decide +kernel
theorem dX2_zero_1 : decode cX2_zero 1 = .ok (.getfield 9, 3) := by decide +kernel
theorem dX2_zero_4 : decode cX2_zero 4 = .ok (.iconst 0, 1) := by decide +kernel
theorem dX2_zero_5 : decode cX2_zero 5 = .ok (.invokestatic 18, 3) := by decide +kernel
theorem dX2_zero_8 : decode cX2_zero 8 = .ok (.return_, 1) := by decide +kernel
set_option maxRecDepth 20000 in
theorem ggX2_value_X8_isCell : GoodIn wsX2_value wsX8_isCell := goodIn_r _ [4] (by decide +kernel) (by decide +kernel)
set_option maxRecDepth 20000 in
theorem gX2_value_X8_isCell_n24 : GoodIn wsX2_value (wsX8_isCell) := ggX2_value_X8_isCell
theorem dX2_value_0 : decode cX2_value 0 = .ok (.iload_n 1, 1) := by decide +kernel
theorem dX2_value_1 : decode cX2_value 1 = .ok (.invokestatic 24, 3) := by decide +kernel
theorem dX2_value_4 : decode cX2_value 4 = .ok (.ifCond .eq 12, 3) := by decide +kernel
theorem dX2_value_7 : decode cX2_value 7 = .ok (.aload_n 0, 1) := by decide +kernel
theorem dX2_value_8 : decode cX2_value 8 = .ok (.getfield 9, 3) := by decide +kernel
theorem dX2_value_11 : decode cX2_value 11 = .ok (.iload_n 1, 1) := by decide +kernel
theorem dX2_value_12 : decode cX2_value 12 = .ok (.iaload, 1) := by decide +kernel
theorem dX2_value_13 : decode cX2_value 13 = .ok (.goto 4, 3) := by decide +kernel
theorem dX2_value_16 : decode cX2_value 16 = .ok (.iconst 0, 1) := by decide +kernel
theorem dX2_value_17 : decode cX2_value 17 = .ok (.ireturn, 1) := by decide +kernel
set_option maxRecDepth 20000 in
theorem ggX2_change_X8_isCell : GoodIn wsX2_change wsX8_isCell := goodIn_r _ [4] (by decide +kernel) (by decide +kernel)
set_option maxRecDepth 20000 in
theorem gX2_change_X8_isCell_n24 : GoodIn wsX2_change (wsX8_isCell) := ggX2_change_X8_isCell
theorem dX2_change_0 : decode cX2_change 0 = .ok (.iload_n 1, 1) := by decide +kernel
theorem dX2_change_1 : decode cX2_change 1 = .ok (.invokestatic 24, 3) := by decide +kernel
theorem dX2_change_4 : decode cX2_change 4 = .ok (.ifCond .eq 10, 3) := by decide +kernel
theorem dX2_change_7 : decode cX2_change 7 = .ok (.aload_n 0, 1) := by decide +kernel
theorem dX2_change_8 : decode cX2_change 8 = .ok (.getfield 9, 3) := by decide +kernel
theorem dX2_change_11 : decode cX2_change 11 = .ok (.iload_n 1, 1) := by decide +kernel
theorem dX2_change_12 : decode cX2_change 12 = .ok (.iload_n 2, 1) := by decide +kernel
theorem dX2_change_13 : decode cX2_change 13 = .ok (.iastore, 1) := by decide +kernel
theorem dX2_change_14 : decode cX2_change 14 = .ok (.return_, 1) := by decide +kernel
set_option maxRecDepth 20000 in
theorem ggX2_takeUp_X8_isCell : GoodIn wsX2_takeUp wsX8_isCell := goodIn_r _ [5] (by decide +kernel) (by decide +kernel)
set_option maxRecDepth 20000 in
theorem gX2_takeUp_X8_isCell_n24 : GoodIn wsX2_takeUp (wsX8_isCell) := ggX2_takeUp_X8_isCell
theorem dX2_takeUp_0 : decode cX2_takeUp 0 = .ok (.iload_n 1, 1) := by decide +kernel
theorem dX2_takeUp_1 : decode cX2_takeUp 1 = .ok (.invokestatic 24, 3) := by decide +kernel
theorem dX2_takeUp_4 : decode cX2_takeUp 4 = .ok (.ifCond .eq 22, 3) := by decide +kernel
theorem dX2_takeUp_7 : decode cX2_takeUp 7 = .ok (.iload_n 2, 1) := by decide +kernel
theorem dX2_takeUp_8 : decode cX2_takeUp 8 = .ok (.invokestatic 24, 3) := by decide +kernel
theorem dX2_takeUp_11 : decode cX2_takeUp 11 = .ok (.ifCond .eq 15, 3) := by decide +kernel
theorem dX2_takeUp_14 : decode cX2_takeUp 14 = .ok (.aload_n 0, 1) := by decide +kernel
theorem dX2_takeUp_15 : decode cX2_takeUp 15 = .ok (.getfield 15, 3) := by decide +kernel
theorem dX2_takeUp_18 : decode cX2_takeUp 18 = .ok (.iload_n 2, 1) := by decide +kernel
theorem dX2_takeUp_19 : decode cX2_takeUp 19 = .ok (.aload_n 0, 1) := by decide +kernel
theorem dX2_takeUp_20 : decode cX2_takeUp 20 = .ok (.getfield 9, 3) := by decide +kernel
theorem dX2_takeUp_23 : decode cX2_takeUp 23 = .ok (.iload_n 1, 1) := by decide +kernel
theorem dX2_takeUp_24 : decode cX2_takeUp 24 = .ok (.iaload, 1) := by decide +kernel
theorem dX2_takeUp_25 : decode cX2_takeUp 25 = .ok (.iastore, 1) := by decide +kernel
theorem dX2_takeUp_26 : decode cX2_takeUp 26 = .ok (.return_, 1) := by decide +kernel
set_option maxRecDepth 20000 in
theorem ggX2_putDown_X8_isCell : GoodIn wsX2_putDown wsX8_isCell := goodIn_r _ [5] (by decide +kernel) (by decide +kernel)
set_option maxRecDepth 20000 in
theorem gX2_putDown_X8_isCell_n24 : GoodIn wsX2_putDown (wsX8_isCell) := ggX2_putDown_X8_isCell
theorem dX2_putDown_0 : decode cX2_putDown 0 = .ok (.iload_n 1, 1) := by decide +kernel
theorem dX2_putDown_1 : decode cX2_putDown 1 = .ok (.invokestatic 24, 3) := by decide +kernel
theorem dX2_putDown_4 : decode cX2_putDown 4 = .ok (.ifCond .eq 15, 3) := by decide +kernel
theorem dX2_putDown_7 : decode cX2_putDown 7 = .ok (.aload_n 0, 1) := by decide +kernel
theorem dX2_putDown_8 : decode cX2_putDown 8 = .ok (.getfield 9, 3) := by decide +kernel
theorem dX2_putDown_11 : decode cX2_putDown 11 = .ok (.iload_n 1, 1) := by decide +kernel
theorem dX2_putDown_12 : decode cX2_putDown 12 = .ok (.aload_n 0, 1) := by decide +kernel
theorem dX2_putDown_13 : decode cX2_putDown 13 = .ok (.getfield 15, 3) := by decide +kernel
theorem dX2_putDown_16 : decode cX2_putDown 16 = .ok (.iload_n 1, 1) := by decide +kernel
theorem dX2_putDown_17 : decode cX2_putDown 17 = .ok (.iaload, 1) := by decide +kernel
theorem dX2_putDown_18 : decode cX2_putDown 18 = .ok (.iastore, 1) := by decide +kernel
theorem dX2_putDown_19 : decode cX2_putDown 19 = .ok (.return_, 1) := by decide +kernel
set_option maxRecDepth 20000 in
theorem ggX2_addDown_X8_isCell : GoodIn wsX2_addDown wsX8_isCell := goodIn_r _ [5] (by decide +kernel) (by decide +kernel)
set_option maxRecDepth 20000 in
theorem gX2_addDown_X8_isCell_n24 : GoodIn wsX2_addDown (wsX8_isCell) := ggX2_addDown_X8_isCell
theorem dX2_addDown_0 : decode cX2_addDown 0 = .ok (.iload_n 1, 1) := by decide +kernel
theorem dX2_addDown_1 : decode cX2_addDown 1 = .ok (.invokestatic 24, 3) := by decide +kernel
theorem dX2_addDown_4 : decode cX2_addDown 4 = .ok (.ifCond .eq 18, 3) := by decide +kernel
theorem dX2_addDown_7 : decode cX2_addDown 7 = .ok (.aload_n 0, 1) := by decide +kernel
theorem dX2_addDown_8 : decode cX2_addDown 8 = .ok (.getfield 9, 3) := by decide +kernel
theorem dX2_addDown_11 : decode cX2_addDown 11 = .ok (.iload_n 1, 1) := by decide +kernel
theorem dX2_addDown_12 : decode cX2_addDown 12 = .ok (.dup2, 1) := by decide +kernel
theorem dX2_addDown_13 : decode cX2_addDown 13 = .ok (.iaload, 1) := by decide +kernel
theorem dX2_addDown_14 : decode cX2_addDown 14 = .ok (.aload_n 0, 1) := by decide +kernel
theorem dX2_addDown_15 : decode cX2_addDown 15 = .ok (.getfield 15, 3) := by decide +kernel
theorem dX2_addDown_18 : decode cX2_addDown 18 = .ok (.iload_n 1, 1) := by decide +kernel
theorem dX2_addDown_19 : decode cX2_addDown 19 = .ok (.iaload, 1) := by decide +kernel
theorem dX2_addDown_20 : decode cX2_addDown 20 = .ok (.iadd, 1) := by decide +kernel
theorem dX2_addDown_21 : decode cX2_addDown 21 = .ok (.iastore, 1) := by decide +kernel
theorem dX2_addDown_22 : decode cX2_addDown 22 = .ok (.return_, 1) := by decide +kernel
set_option maxRecDepth 20000 in
theorem ggX3_init_X3_begin : GoodIn wsX3_init wsX3_begin := goodIn_r _ [16, 17, 18, 5, 7, 10, 19, 20, 21, 22, 23, 24, 25, 15, 26, 27, 8, 9, 28, 29, 30, 31, 32, 33, 34, 35, 36] (by decide +kernel) (by decide +kernel)
set_option maxRecDepth 20000 in
theorem gX3_init_X3_begin : GoodIn wsX3_init (wsV RX3 31 RX3 yX3_begin wsX3_begin) := goodIn_app (goodIn_of _ (by decide +kernel)) ggX3_init_X3_begin
theorem dX3_init_0 : decode cX3_init 0 = .ok (.aload_n 0, 1) := by decide +kernel
theorem dX3_init_1 : decode cX3_init 1 = .ok (.invokespecial 3, 3) := by decide +kernel
theorem dX3_init_4 : decode cX3_init 4 = .ok (.aload_n 0, 1) := by decide +kernel
theorem dX3_init_5 : decode cX3_init 5 = .ok (.bipush 16, 2) := by decide +kernel
theorem dX3_init_7 : decode cX3_init 7 = .ok (.newarray .boolean, 2) := by decide +kernel
theorem dX3_init_9 : decode cX3_init 9 = .ok (.putfield 9, 3) := by decide +kernel
theorem dX3_init_12 : decode cX3_init 12 = .ok (.aload_n 0, 1) := by decide +kernel
theorem dX3_init_13 : decode cX3_init 13 = .ok (.bipush 16, 2) := by decide +kernel
theorem dX3_init_15 : decode cX3_init 15 = .ok (.newarray .int, 2) := by decide +kernel
theorem dX3_init_17 : decode cX3_init 17 = .ok (.putfield 15, 3) := by decide +kernel
theorem dX3_init_20 : decode cX3_init 20 = .ok (.aload_n 0, 1) := by decide +kernel
theorem dX3_init_21 : decode cX3_init 21 = .ok (.bipush 16, 2) := by decide +kernel
theorem dX3_init_23 : decode cX3_init 23 = .ok (.newarray .int, 2) := by decide +kernel
theorem dX3_init_25 : decode cX3_init 25 = .ok (.putfield 19, 3) := by decide +kernel
theorem dX3_init_28 : decode cX3_init 28 = .ok (.aload_n 0, 1) := by decide +kernel
theorem dX3_init_29 : decode cX3_init 29 = .ok (.bipush 16, 2) := by decide +kernel
theorem dX3_init_31 : decode cX3_init 31 = .ok (.newarray .int, 2) := by decide +kernel
theorem dX3_init_33 : decode cX3_init 33 = .ok (.putfield 22, 3) := by decide +kernel
theorem dX3_init_36 : decode cX3_init 36 = .ok (.aload_n 0, 1) := by decide +kernel
theorem dX3_init_37 : decode cX3_init 37 = .ok (.sipush 256, 3) := by decide +kernel
theorem dX3_init_40 : decode cX3_init 40 = .ok (.newarray .int, 2) := by decide +kernel
theorem dX3_init_42 : decode cX3_init 42 = .ok (.putfield 25, 3) := by decide +kernel
theorem dX3_init_45 : decode cX3_init 45 = .ok (.aload_n 0, 1) := by decide +kernel
theorem dX3_init_46 : decode cX3_init 46 = .ok (.sipush 256, 3) := by decide +kernel
theorem dX3_init_49 : decode cX3_init 49 = .ok (.newarray .int, 2) := by decide +kernel
theorem dX3_init_51 : decode cX3_init 51 = .ok (.putfield 28, 3) := by decide +kernel
theorem dX3_init_54 : decode cX3_init 54 = .ok (.aload_n 0, 1) := by decide +kernel
theorem dX3_init_55 : decode cX3_init 55 = .ok (.iconst 2, 1) := by decide +kernel
theorem dX3_init_56 : decode cX3_init 56 = .ok (.invokevirtual 31, 3) := by decide +kernel
theorem dX3_init_59 : decode cX3_init 59 = .ok (.return_, 1) := by decide +kernel
set_option maxRecDepth 20000 in
theorem ggX3_begin_J7_fill_53178 : GoodIn wsX3_begin wsJ7_fill_53178 := goodIn_r _ [9] (by decide +kernel) (by decide +kernel)
set_option maxRecDepth 20000 in
theorem gX3_begin_J7_fill_53178 : GoodIn wsX3_begin (va_wsS RX3 42 yJ7_fill_53178 wsJ7_fill_53178) := goodIn_app (goodIn_of _ (by decide +kernel)) ggX3_begin_J7_fill_53178
set_option maxRecDepth 20000 in
theorem ggX3_begin_X3_rankAnew : GoodIn wsX3_begin wsX3_rankAnew := goodIn_r _ [14, 15, 1, 3, 16, 17, 18, 19, 20, 21, 22, 23, 24, 25, 26] (by decide +kernel) (by decide +kernel)
set_option maxRecDepth 20000 in
theorem gX3_begin_X3_rankAnew : GoodIn wsX3_begin (wsV RX3 48 RX3 yX3_rankAnew wsX3_rankAnew) := goodIn_app (goodIn_of _ (by decide +kernel)) ggX3_begin_X3_rankAnew
theorem dX3_begin_0 : decode cX3_begin 0 = .ok (.aload_n 0, 1) := by decide +kernel
theorem dX3_begin_1 : decode cX3_begin 1 = .ok (.iload_n 1, 1) := by decide +kernel
theorem dX3_begin_2 : decode cX3_begin 2 = .ok (.putfield 35, 3) := by decide +kernel
theorem dX3_begin_5 : decode cX3_begin 5 = .ok (.aload_n 0, 1) := by decide +kernel
theorem dX3_begin_6 : decode cX3_begin 6 = .ok (.iconst 0, 1) := by decide +kernel
theorem dX3_begin_7 : decode cX3_begin 7 = .ok (.putfield 39, 3) := by decide +kernel
theorem dX3_begin_10 : decode cX3_begin 10 = .ok (.iconst 0, 1) := by decide +kernel
theorem dX3_begin_11 : decode cX3_begin 11 = .ok (.istore_n 2, 1) := by decide +kernel
theorem dX3_begin_12 : decode cX3_begin 12 = .ok (.iload_n 2, 1) := by decide +kernel
theorem dX3_begin_13 : decode cX3_begin 13 = .ok (.bipush 16, 2) := by decide +kernel
theorem dX3_begin_15 : decode cX3_begin 15 = .ok (.if_icmp .ge 25, 3) := by decide +kernel
theorem dX3_begin_18 : decode cX3_begin 18 = .ok (.aload_n 0, 1) := by decide +kernel
theorem dX3_begin_19 : decode cX3_begin 19 = .ok (.getfield 9, 3) := by decide +kernel
theorem dX3_begin_22 : decode cX3_begin 22 = .ok (.iload_n 2, 1) := by decide +kernel
theorem dX3_begin_23 : decode cX3_begin 23 = .ok (.iload_n 2, 1) := by decide +kernel
theorem dX3_begin_24 : decode cX3_begin 24 = .ok (.iload_n 1, 1) := by decide +kernel
theorem dX3_begin_25 : decode cX3_begin 25 = .ok (.if_icmp .ge 7, 3) := by decide +kernel
theorem dX3_begin_28 : decode cX3_begin 28 = .ok (.iconst 1, 1) := by decide +kernel
theorem dX3_begin_29 : decode cX3_begin 29 = .ok (.goto 4, 3) := by decide +kernel
theorem dX3_begin_32 : decode cX3_begin 32 = .ok (.iconst 0, 1) := by decide +kernel
theorem dX3_begin_33 : decode cX3_begin 33 = .ok (.bastore, 1) := by decide +kernel
theorem dX3_begin_34 : decode cX3_begin 34 = .ok (.iinc 2 1, 3) := by decide +kernel
theorem dX3_begin_37 : decode cX3_begin 37 = .ok (.goto (-25), 3) := by decide +kernel
theorem dX3_begin_40 : decode cX3_begin 40 = .ok (.aload_n 0, 1) := by decide +kernel
theorem dX3_begin_41 : decode cX3_begin 41 = .ok (.getfield 15, 3) := by decide +kernel
theorem dX3_begin_44 : decode cX3_begin 44 = .ok (.iconst 0, 1) := by decide +kernel
theorem dX3_begin_45 : decode cX3_begin 45 = .ok (.invokestatic 42, 3) := by decide +kernel
theorem dX3_begin_48 : decode cX3_begin 48 = .ok (.aload_n 0, 1) := by decide +kernel
theorem dX3_begin_49 : decode cX3_begin 49 = .ok (.getfield 25, 3) := by decide +kernel
theorem dX3_begin_52 : decode cX3_begin 52 = .ok (.iconst (-1), 1) := by decide +kernel
theorem dX3_begin_53 : decode cX3_begin 53 = .ok (.invokestatic 42, 3) := by decide +kernel
theorem dX3_begin_56 : decode cX3_begin 56 = .ok (.aload_n 0, 1) := by decide +kernel
theorem dX3_begin_57 : decode cX3_begin 57 = .ok (.invokevirtual 48, 3) := by decide +kernel
theorem dX3_begin_60 : decode cX3_begin 60 = .ok (.return_, 1) := by decide +kernel
theorem dX3_size_0 : decode cX3_size 0 = .ok (.aload_n 0, 1) := by decide +kernel
theorem dX3_size_1 : decode cX3_size 1 = .ok (.getfield 35, 3) := by decide +kernel
theorem dX3_size_4 : decode cX3_size 4 = .ok (.ireturn, 1) := by decide +kernel
theorem dX3_ranks_0 : decode cX3_ranks 0 = .ok (.aload_n 0, 1) := by decide +kernel
theorem dX3_ranks_1 : decode cX3_ranks 1 = .ok (.getfield 51, 3) := by decide +kernel
theorem dX3_ranks_4 : decode cX3_ranks 4 = .ok (.ireturn, 1) := by decide +kernel
theorem dX3_lines_0 : decode cX3_lines 0 = .ok (.aload_n 0, 1) := by decide +kernel
theorem dX3_lines_1 : decode cX3_lines 1 = .ok (.getfield 39, 3) := by decide +kernel
theorem dX3_lines_4 : decode cX3_lines 4 = .ok (.ireturn, 1) := by decide +kernel
theorem dX3_isHost_0 : decode cX3_isHost 0 = .ok (.iload_n 1, 1) := by decide +kernel
theorem dX3_isHost_1 : decode cX3_isHost 1 = .ok (.ifCond .lt 15, 3) := by decide +kernel
theorem dX3_isHost_4 : decode cX3_isHost 4 = .ok (.iload_n 1, 1) := by decide +kernel
theorem dX3_isHost_5 : decode cX3_isHost 5 = .ok (.aload_n 0, 1) := by decide +kernel
theorem dX3_isHost_6 : decode cX3_isHost 6 = .ok (.getfield 35, 3) := by decide +kernel
theorem dX3_isHost_9 : decode cX3_isHost 9 = .ok (.if_icmp .ge 7, 3) := by decide +kernel
theorem dX3_isHost_12 : decode cX3_isHost 12 = .ok (.iconst 1, 1) := by decide +kernel
theorem dX3_isHost_13 : decode cX3_isHost 13 = .ok (.goto 4, 3) := by decide +kernel
theorem dX3_isHost_16 : decode cX3_isHost 16 = .ok (.iconst 0, 1) := by decide +kernel
theorem dX3_isHost_17 : decode cX3_isHost 17 = .ok (.ireturn, 1) := by decide +kernel
set_option maxRecDepth 20000 in
theorem ggX3_isLive_X3_isHost : GoodIn wsX3_isLive wsX3_isHost := goodIn_r _ [6, 7, 8, 9, 10, 11, 12, 13, 14, 15, 16] (by decide +kernel) (by decide +kernel)
set_option maxRecDepth 20000 in
theorem gX3_isLive_X3_isHost : GoodIn wsX3_isLive (wsV RX3 54 RX3 yX3_isHost wsX3_isHost) := goodIn_app (goodIn_of _ (by decide +kernel)) ggX3_isLive_X3_isHost
theorem dX3_isLive_0 : decode cX3_isLive 0 = .ok (.aload_n 0, 1) := by decide +kernel
theorem dX3_isLive_1 : decode cX3_isLive 1 = .ok (.iload_n 1, 1) := by decide +kernel
theorem dX3_isLive_2 : decode cX3_isLive 2 = .ok (.invokevirtual 54, 3) := by decide +kernel
theorem dX3_isLive_5 : decode cX3_isLive 5 = .ok (.ifCond .eq 16, 3) := by decide +kernel
theorem dX3_isLive_8 : decode cX3_isLive 8 = .ok (.aload_n 0, 1) := by decide +kernel
theorem dX3_isLive_9 : decode cX3_isLive 9 = .ok (.getfield 9, 3) := by decide +kernel
theorem dX3_isLive_12 : decode cX3_isLive 12 = .ok (.iload_n 1, 1) := by decide +kernel
theorem dX3_isLive_13 : decode cX3_isLive 13 = .ok (.baload, 1) := by decide +kernel
theorem dX3_isLive_14 : decode cX3_isLive 14 = .ok (.ifCond .eq 7, 3) := by decide +kernel
theorem dX3_isLive_17 : decode cX3_isLive 17 = .ok (.iconst 1, 1) := by decide +kernel
theorem dX3_isLive_18 : decode cX3_isLive 18 = .ok (.goto 4, 3) := by decide +kernel
theorem dX3_isLive_21 : decode cX3_isLive 21 = .ok (.iconst 0, 1) := by decide +kernel
theorem dX3_isLive_22 : decode cX3_isLive 22 = .ok (.ireturn, 1) := by decide +kernel
set_option maxRecDepth 20000 in
theorem ggX3_isLastLive_X3_isLive : GoodIn wsX3_isLastLive wsX3_isLive := goodIn_r _ [6, 7, 8, 9, 10, 5, 11, 12, 13, 14, 15, 16, 17, 18, 19, 20, 21] (by decide +kernel) (by decide +kernel)
set_option maxRecDepth 20000 in
theorem gX3_isLastLive_X3_isLive : GoodIn wsX3_isLastLive (wsV RX3 58 RX3 yX3_isLive wsX3_isLive) := goodIn_app (goodIn_of _ (by decide +kernel)) ggX3_isLastLive_X3_isLive
theorem dX3_isLastLive_0 : decode cX3_isLastLive 0 = .ok (.aload_n 0, 1) := by decide +kernel
theorem dX3_isLastLive_1 : decode cX3_isLastLive 1 = .ok (.iload_n 1, 1) := by decide +kernel
theorem dX3_isLastLive_2 : decode cX3_isLastLive 2 = .ok (.invokevirtual 58, 3) := by decide +kernel
theorem dX3_isLastLive_5 : decode cX3_isLastLive 5 = .ok (.ifCond .eq 15, 3) := by decide +kernel
theorem dX3_isLastLive_8 : decode cX3_isLastLive 8 = .ok (.aload_n 0, 1) := by decide +kernel
theorem dX3_isLastLive_9 : decode cX3_isLastLive 9 = .ok (.getfield 51, 3) := by decide +kernel
theorem dX3_isLastLive_12 : decode cX3_isLastLive 12 = .ok (.iconst 1, 1) := by decide +kernel
theorem dX3_isLastLive_13 : decode cX3_isLastLive 13 = .ok (.if_icmp .ne 7, 3) := by decide +kernel
theorem dX3_isLastLive_16 : decode cX3_isLastLive 16 = .ok (.iconst 1, 1) := by decide +kernel
theorem dX3_isLastLive_17 : decode cX3_isLastLive 17 = .ok (.goto 4, 3) := by decide +kernel
theorem dX3_isLastLive_20 : decode cX3_isLastLive 20 = .ok (.iconst 0, 1) := by decide +kernel
theorem dX3_isLastLive_21 : decode cX3_isLastLive 21 = .ok (.ireturn, 1) := by decide +kernel
set_option maxRecDepth 20000 in
theorem ggX3_isPair_X3_isHost : GoodIn wsX3_isPair wsX3_isHost := goodIn_r _ [5, 6, 7, 8, 9, 10, 11, 12, 13, 14, 15] (by decide +kernel) (by decide +kernel)
set_option maxRecDepth 20000 in
theorem gX3_isPair_X3_isHost : GoodIn wsX3_isPair (wsV RX3 54 RX3 yX3_isHost wsX3_isHost) := goodIn_app (goodIn_of _ (by decide +kernel)) ggX3_isPair_X3_isHost
theorem dX3_isPair_0 : decode cX3_isPair 0 = .ok (.aload_n 0, 1) := by decide +kernel
theorem dX3_isPair_1 : decode cX3_isPair 1 = .ok (.iload_n 1, 1) := by decide +kernel
theorem dX3_isPair_2 : decode cX3_isPair 2 = .ok (.invokevirtual 54, 3) := by decide +kernel
theorem dX3_isPair_5 : decode cX3_isPair 5 = .ok (.ifCond .eq 20, 3) := by decide +kernel
theorem dX3_isPair_8 : decode cX3_isPair 8 = .ok (.aload_n 0, 1) := by decide +kernel
theorem dX3_isPair_9 : decode cX3_isPair 9 = .ok (.iload_n 2, 1) := by decide +kernel
theorem dX3_isPair_10 : decode cX3_isPair 10 = .ok (.invokevirtual 54, 3) := by decide +kernel
theorem dX3_isPair_13 : decode cX3_isPair 13 = .ok (.ifCond .eq 12, 3) := by decide +kernel
theorem dX3_isPair_16 : decode cX3_isPair 16 = .ok (.iload_n 1, 1) := by decide +kernel
theorem dX3_isPair_17 : decode cX3_isPair 17 = .ok (.iload_n 2, 1) := by decide +kernel
theorem dX3_isPair_18 : decode cX3_isPair 18 = .ok (.if_icmp .eq 7, 3) := by decide +kernel
theorem dX3_isPair_21 : decode cX3_isPair 21 = .ok (.iconst 1, 1) := by decide +kernel
theorem dX3_isPair_22 : decode cX3_isPair 22 = .ok (.goto 4, 3) := by decide +kernel
theorem dX3_isPair_25 : decode cX3_isPair 25 = .ok (.iconst 0, 1) := by decide +kernel
theorem dX3_isPair_26 : decode cX3_isPair 26 = .ok (.ireturn, 1) := by decide +kernel
theorem dX3_hasLine_0 : decode cX3_hasLine 0 = .ok (.iload_n 1, 1) := by decide +kernel
theorem dX3_hasLine_1 : decode cX3_hasLine 1 = .ok (.ifCond .lt 38, 3) := by decide +kernel
theorem dX3_hasLine_4 : decode cX3_hasLine 4 = .ok (.iload_n 1, 1) := by decide +kernel
theorem dX3_hasLine_5 : decode cX3_hasLine 5 = .ok (.bipush 16, 2) := by decide +kernel
theorem dX3_hasLine_7 : decode cX3_hasLine 7 = .ok (.if_icmp .ge 32, 3) := by decide +kernel
theorem dX3_hasLine_10 : decode cX3_hasLine 10 = .ok (.iload_n 2, 1) := by decide +kernel
theorem dX3_hasLine_11 : decode cX3_hasLine 11 = .ok (.ifCond .lt 28, 3) := by decide +kernel
theorem dX3_hasLine_14 : decode cX3_hasLine 14 = .ok (.iload_n 2, 1) := by decide +kernel
theorem dX3_hasLine_15 : decode cX3_hasLine 15 = .ok (.bipush 16, 2) := by decide +kernel
theorem dX3_hasLine_17 : decode cX3_hasLine 17 = .ok (.if_icmp .ge 22, 3) := by decide +kernel
theorem dX3_hasLine_20 : decode cX3_hasLine 20 = .ok (.aload_n 0, 1) := by decide +kernel
theorem dX3_hasLine_21 : decode cX3_hasLine 21 = .ok (.getfield 25, 3) := by decide +kernel
theorem dX3_hasLine_24 : decode cX3_hasLine 24 = .ok (.iload_n 1, 1) := by decide +kernel
theorem dX3_hasLine_25 : decode cX3_hasLine 25 = .ok (.bipush 16, 2) := by decide +kernel
theorem dX3_hasLine_27 : decode cX3_hasLine 27 = .ok (.imul, 1) := by decide +kernel
theorem dX3_hasLine_28 : decode cX3_hasLine 28 = .ok (.iload_n 2, 1) := by decide +kernel
theorem dX3_hasLine_29 : decode cX3_hasLine 29 = .ok (.iadd, 1) := by decide +kernel
theorem dX3_hasLine_30 : decode cX3_hasLine 30 = .ok (.iaload, 1) := by decide +kernel
theorem dX3_hasLine_31 : decode cX3_hasLine 31 = .ok (.iconst (-1), 1) := by decide +kernel
theorem dX3_hasLine_32 : decode cX3_hasLine 32 = .ok (.if_icmp .eq 7, 3) := by decide +kernel
theorem dX3_hasLine_35 : decode cX3_hasLine 35 = .ok (.iconst 1, 1) := by decide +kernel
theorem dX3_hasLine_36 : decode cX3_hasLine 36 = .ok (.goto 4, 3) := by decide +kernel
theorem dX3_hasLine_39 : decode cX3_hasLine 39 = .ok (.iconst 0, 1) := by decide +kernel
theorem dX3_hasLine_40 : decode cX3_hasLine 40 = .ok (.ireturn, 1) := by decide +kernel
theorem dX3_hostOf_0 : decode cX3_hostOf 0 = .ok (.iload_n 1, 1) := by decide +kernel
theorem dX3_hostOf_1 : decode cX3_hostOf 1 = .ok (.ifCond .lt 20, 3) := by decide +kernel
theorem dX3_hostOf_4 : decode cX3_hostOf 4 = .ok (.iload_n 1, 1) := by decide +kernel
theorem dX3_hostOf_5 : decode cX3_hostOf 5 = .ok (.aload_n 0, 1) := by decide +kernel
theorem dX3_hostOf_6 : decode cX3_hostOf 6 = .ok (.getfield 51, 3) := by decide +kernel
theorem dX3_hostOf_9 : decode cX3_hostOf 9 = .ok (.if_icmp .ge 12, 3) := by decide +kernel
theorem dX3_hostOf_12 : decode cX3_hostOf 12 = .ok (.aload_n 0, 1) := by decide +kernel
theorem dX3_hostOf_13 : decode cX3_hostOf 13 = .ok (.getfield 19, 3) := by decide +kernel
theorem dX3_hostOf_16 : decode cX3_hostOf 16 = .ok (.iload_n 1, 1) := by decide +kernel
theorem dX3_hostOf_17 : decode cX3_hostOf 17 = .ok (.iaload, 1) := by decide +kernel
theorem dX3_hostOf_18 : decode cX3_hostOf 18 = .ok (.goto 4, 3) := by decide +kernel
theorem dX3_hostOf_21 : decode cX3_hostOf 21 = .ok (.iconst (-1), 1) := by decide +kernel
theorem dX3_hostOf_22 : decode cX3_hostOf 22 = .ok (.ireturn, 1) := by decide +kernel
set_option maxRecDepth 20000 in
theorem ggX3_rankOf_X3_isLive : GoodIn wsX3_rankOf wsX3_isLive := goodIn_r _ [6, 7, 8, 9, 10, 5, 11, 12, 13, 14, 15, 16, 17, 18, 19, 20, 21] (by decide +kernel) (by decide +kernel)
set_option maxRecDepth 20000 in
theorem gX3_rankOf_X3_isLive : GoodIn wsX3_rankOf (wsV RX3 58 RX3 yX3_isLive wsX3_isLive) := goodIn_app (goodIn_of _ (by decide +kernel)) ggX3_rankOf_X3_isLive
theorem dX3_rankOf_0 : decode cX3_rankOf 0 = .ok (.aload_n 0, 1) := by decide +kernel
theorem dX3_rankOf_1 : decode cX3_rankOf 1 = .ok (.iload_n 1, 1) := by decide +kernel
theorem dX3_rankOf_2 : decode cX3_rankOf 2 = .ok (.invokevirtual 58, 3) := by decide +kernel
theorem dX3_rankOf_5 : decode cX3_rankOf 5 = .ok (.ifCond .eq 12, 3) := by decide +kernel
theorem dX3_rankOf_8 : decode cX3_rankOf 8 = .ok (.aload_n 0, 1) := by decide +kernel
theorem dX3_rankOf_9 : decode cX3_rankOf 9 = .ok (.getfield 22, 3) := by decide +kernel
theorem dX3_rankOf_12 : decode cX3_rankOf 12 = .ok (.iload_n 1, 1) := by decide +kernel
theorem dX3_rankOf_13 : decode cX3_rankOf 13 = .ok (.iaload, 1) := by decide +kernel
theorem dX3_rankOf_14 : decode cX3_rankOf 14 = .ok (.goto 4, 3) := by decide +kernel
theorem dX3_rankOf_17 : decode cX3_rankOf 17 = .ok (.iconst (-1), 1) := by decide +kernel
theorem dX3_rankOf_18 : decode cX3_rankOf 18 = .ok (.ireturn, 1) := by decide +kernel
set_option maxRecDepth 20000 in
theorem ggX3_latenessOf_X3_isHost : GoodIn wsX3_latenessOf wsX3_isHost := goodIn_r _ [6, 7, 8, 9, 10, 11, 12, 13, 14, 15, 16] (by decide +kernel) (by decide +kernel)
set_option maxRecDepth 20000 in
theorem gX3_latenessOf_X3_isHost : GoodIn wsX3_latenessOf (wsV RX3 54 RX3 yX3_isHost wsX3_isHost) := goodIn_app (goodIn_of _ (by decide +kernel)) ggX3_latenessOf_X3_isHost
theorem dX3_latenessOf_0 : decode cX3_latenessOf 0 = .ok (.aload_n 0, 1) := by decide +kernel
theorem dX3_latenessOf_1 : decode cX3_latenessOf 1 = .ok (.iload_n 1, 1) := by decide +kernel
theorem dX3_latenessOf_2 : decode cX3_latenessOf 2 = .ok (.invokevirtual 54, 3) := by decide +kernel
theorem dX3_latenessOf_5 : decode cX3_latenessOf 5 = .ok (.ifCond .eq 12, 3) := by decide +kernel
theorem dX3_latenessOf_8 : decode cX3_latenessOf 8 = .ok (.aload_n 0, 1) := by decide +kernel
theorem dX3_latenessOf_9 : decode cX3_latenessOf 9 = .ok (.getfield 15, 3) := by decide +kernel
theorem dX3_latenessOf_12 : decode cX3_latenessOf 12 = .ok (.iload_n 1, 1) := by decide +kernel
theorem dX3_latenessOf_13 : decode cX3_latenessOf 13 = .ok (.iaload, 1) := by decide +kernel
theorem dX3_latenessOf_14 : decode cX3_latenessOf 14 = .ok (.goto 4, 3) := by decide +kernel
theorem dX3_latenessOf_17 : decode cX3_latenessOf 17 = .ok (.iconst 0, 1) := by decide +kernel
theorem dX3_latenessOf_18 : decode cX3_latenessOf 18 = .ok (.ireturn, 1) := by decide +kernel
set_option maxRecDepth 20000 in
theorem ggX3_letterTicks_X3_hasLine : GoodIn wsX3_letterTicks wsX3_hasLine := goodIn_r _ [7, 1, 11, 12, 13, 14, 15, 16, 17, 18, 19] (by decide +kernel) (by decide +kernel)
set_option maxRecDepth 20000 in
theorem gX3_letterTicks_X3_hasLine : GoodIn wsX3_letterTicks (wsV RX3 61 RX3 yX3_hasLine wsX3_hasLine) := goodIn_app (goodIn_of _ (by decide +kernel)) ggX3_letterTicks_X3_hasLine
set_option maxRecDepth 20000 in
theorem ggX3_letterTicks_X3_pair : GoodIn wsX3_letterTicks wsX3_pair := goodIn_r _ [10] (by decide +kernel) (by decide +kernel)
set_option maxRecDepth 20000 in
theorem gX3_letterTicks_X3_pair : GoodIn wsX3_letterTicks (va_wsS RX3 65 yX3_pair wsX3_pair) := goodIn_app (goodIn_of _ (by decide +kernel)) ggX3_letterTicks_X3_pair
theorem dX3_letterTicks_0 : decode cX3_letterTicks 0 = .ok (.aload_n 0, 1) := by decide +kernel
theorem dX3_letterTicks_1 : decode cX3_letterTicks 1 = .ok (.iload_n 1, 1) := by decide +kernel
theorem dX3_letterTicks_2 : decode cX3_letterTicks 2 = .ok (.iload_n 2, 1) := by decide +kernel
theorem dX3_letterTicks_3 : decode cX3_letterTicks 3 = .ok (.invokevirtual 61, 3) := by decide +kernel
theorem dX3_letterTicks_6 : decode cX3_letterTicks 6 = .ok (.ifCond .ne 5, 3) := by decide +kernel
theorem dX3_letterTicks_9 : decode cX3_letterTicks 9 = .ok (.iconst 0, 1) := by decide +kernel
theorem dX3_letterTicks_10 : decode cX3_letterTicks 10 = .ok (.ireturn, 1) := by decide +kernel
theorem dX3_letterTicks_11 : decode cX3_letterTicks 11 = .ok (.aload_n 0, 1) := by decide +kernel
theorem dX3_letterTicks_12 : decode cX3_letterTicks 12 = .ok (.getfield 25, 3) := by decide +kernel
theorem dX3_letterTicks_15 : decode cX3_letterTicks 15 = .ok (.iload_n 1, 1) := by decide +kernel
theorem dX3_letterTicks_16 : decode cX3_letterTicks 16 = .ok (.iload_n 2, 1) := by decide +kernel
theorem dX3_letterTicks_17 : decode cX3_letterTicks 17 = .ok (.invokestatic 65, 3) := by decide +kernel
theorem dX3_letterTicks_20 : decode cX3_letterTicks 20 = .ok (.iaload, 1) := by decide +kernel
theorem dX3_letterTicks_21 : decode cX3_letterTicks 21 = .ok (.iload_n 3, 1) := by decide +kernel
theorem dX3_letterTicks_22 : decode cX3_letterTicks 22 = .ok (.aload_n 0, 1) := by decide +kernel
theorem dX3_letterTicks_23 : decode cX3_letterTicks 23 = .ok (.getfield 28, 3) := by decide +kernel
theorem dX3_letterTicks_26 : decode cX3_letterTicks 26 = .ok (.iload_n 1, 1) := by decide +kernel
theorem dX3_letterTicks_27 : decode cX3_letterTicks 27 = .ok (.iload_n 2, 1) := by decide +kernel
theorem dX3_letterTicks_28 : decode cX3_letterTicks 28 = .ok (.invokestatic 65, 3) := by decide +kernel
theorem dX3_letterTicks_31 : decode cX3_letterTicks 31 = .ok (.iaload, 1) := by decide +kernel
theorem dX3_letterTicks_32 : decode cX3_letterTicks 32 = .ok (.imul, 1) := by decide +kernel
theorem dX3_letterTicks_33 : decode cX3_letterTicks 33 = .ok (.iadd, 1) := by decide +kernel
theorem dX3_letterTicks_34 : decode cX3_letterTicks 34 = .ok (.ireturn, 1) := by decide +kernel
set_option maxRecDepth 20000 in
theorem ggX3_turn_X3_isHost : GoodIn wsX3_turn wsX3_isHost := goodIn_r _ [6, 7, 15, 16, 17, 18, 19, 20, 21, 22, 23] (by decide +kernel) (by decide +kernel)
set_option maxRecDepth 20000 in
theorem gX3_turn_X3_isHost : GoodIn wsX3_turn (wsV RX3 54 RX3 yX3_isHost wsX3_isHost) := goodIn_app (goodIn_of _ (by decide +kernel)) ggX3_turn_X3_isHost
set_option maxRecDepth 20000 in
theorem ggX3_turn_X3_rankAnew : GoodIn wsX3_turn wsX3_rankAnew := goodIn_r _ [11, 12, 7, 1, 13, 14, 15, 16, 17, 18, 19, 20, 21, 22, 23] (by decide +kernel) (by decide +kernel)
set_option maxRecDepth 20000 in
theorem gX3_turn_X3_rankAnew : GoodIn wsX3_turn (wsV RX3 48 RX3 yX3_rankAnew wsX3_rankAnew) := goodIn_app (goodIn_of _ (by decide +kernel)) ggX3_turn_X3_rankAnew
theorem dX3_turn_0 : decode cX3_turn 0 = .ok (.aload_n 0, 1) := by decide +kernel
theorem dX3_turn_1 : decode cX3_turn 1 = .ok (.iload_n 1, 1) := by decide +kernel
theorem dX3_turn_2 : decode cX3_turn 2 = .ok (.invokevirtual 54, 3) := by decide +kernel
theorem dX3_turn_5 : decode cX3_turn 5 = .ok (.ifCond .eq 14, 3) := by decide +kernel
theorem dX3_turn_8 : decode cX3_turn 8 = .ok (.aload_n 0, 1) := by decide +kernel
theorem dX3_turn_9 : decode cX3_turn 9 = .ok (.getfield 9, 3) := by decide +kernel
theorem dX3_turn_12 : decode cX3_turn 12 = .ok (.iload_n 1, 1) := by decide +kernel
theorem dX3_turn_13 : decode cX3_turn 13 = .ok (.iload_n 2, 1) := by decide +kernel
theorem dX3_turn_14 : decode cX3_turn 14 = .ok (.bastore, 1) := by decide +kernel
theorem dX3_turn_15 : decode cX3_turn 15 = .ok (.aload_n 0, 1) := by decide +kernel
theorem dX3_turn_16 : decode cX3_turn 16 = .ok (.invokevirtual 48, 3) := by decide +kernel
theorem dX3_turn_19 : decode cX3_turn 19 = .ok (.return_, 1) := by decide +kernel
set_option maxRecDepth 20000 in
theorem ggX3_delay_X3_isHost : GoodIn wsX3_delay wsX3_isHost := goodIn_r _ [6, 7, 8, 9, 10, 11, 12, 13, 14, 15, 16] (by decide +kernel) (by decide +kernel)
set_option maxRecDepth 20000 in
theorem gX3_delay_X3_isHost : GoodIn wsX3_delay (wsV RX3 54 RX3 yX3_isHost wsX3_isHost) := goodIn_app (goodIn_of _ (by decide +kernel)) ggX3_delay_X3_isHost
theorem dX3_delay_0 : decode cX3_delay 0 = .ok (.aload_n 0, 1) := by decide +kernel
theorem dX3_delay_1 : decode cX3_delay 1 = .ok (.iload_n 1, 1) := by decide +kernel
theorem dX3_delay_2 : decode cX3_delay 2 = .ok (.invokevirtual 54, 3) := by decide +kernel
theorem dX3_delay_5 : decode cX3_delay 5 = .ok (.ifCond .eq 10, 3) := by decide +kernel
theorem dX3_delay_8 : decode cX3_delay 8 = .ok (.aload_n 0, 1) := by decide +kernel
theorem dX3_delay_9 : decode cX3_delay 9 = .ok (.getfield 15, 3) := by decide +kernel
theorem dX3_delay_12 : decode cX3_delay 12 = .ok (.iload_n 1, 1) := by decide +kernel
theorem dX3_delay_13 : decode cX3_delay 13 = .ok (.iload_n 2, 1) := by decide +kernel
theorem dX3_delay_14 : decode cX3_delay 14 = .ok (.iastore, 1) := by decide +kernel
theorem dX3_delay_15 : decode cX3_delay 15 = .ok (.return_, 1) := by decide +kernel
set_option maxRecDepth 20000 in
theorem ggX3_join_X3_isPair : GoodIn wsX3_join wsX3_isPair := goodIn_r _ [8, 9, 10, 11, 7, 12, 13, 21, 22, 23, 24, 25, 26, 27, 28, 29] (by decide +kernel) (by decide +kernel)
set_option maxRecDepth 20000 in
theorem gX3_join_X3_isPair : GoodIn wsX3_join (wsV RX3 69 RX3 yX3_isPair wsX3_isPair) := goodIn_app (goodIn_of _ (by decide +kernel)) ggX3_join_X3_isPair
set_option maxRecDepth 20000 in
theorem ggX3_join_X3_hasLine : GoodIn wsX3_join wsX3_hasLine := goodIn_r _ [17, 2, 21, 22, 23, 24, 25, 26, 27, 28, 29] (by decide +kernel) (by decide +kernel)
set_option maxRecDepth 20000 in
theorem gX3_join_X3_hasLine : GoodIn wsX3_join (wsV RX3 61 RX3 yX3_hasLine wsX3_hasLine) := goodIn_app (goodIn_of _ (by decide +kernel)) ggX3_join_X3_hasLine
set_option maxRecDepth 20000 in
theorem ggX3_join_X3_pair : GoodIn wsX3_join wsX3_pair := goodIn_r _ [20] (by decide +kernel) (by decide +kernel)
set_option maxRecDepth 20000 in
theorem gX3_join_X3_pair : GoodIn wsX3_join (va_wsS RX3 65 yX3_pair wsX3_pair) := goodIn_app (goodIn_of _ (by decide +kernel)) ggX3_join_X3_pair
theorem dX3_join_0 : decode cX3_join 0 = .ok (.aload_n 0, 1) := by decide +kernel
theorem dX3_join_1 : decode cX3_join 1 = .ok (.iload_n 1, 1) := by decide +kernel
theorem dX3_join_2 : decode cX3_join 2 = .ok (.iload_n 2, 1) := by decide +kernel
theorem dX3_join_3 : decode cX3_join 3 = .ok (.invokevirtual 69, 3) := by decide +kernel
theorem dX3_join_6 : decode cX3_join 6 = .ok (.ifCond .ne 4, 3) := by decide +kernel
theorem dX3_join_9 : decode cX3_join 9 = .ok (.return_, 1) := by decide +kernel
theorem dX3_join_10 : decode cX3_join 10 = .ok (.aload_n 0, 1) := by decide +kernel
theorem dX3_join_11 : decode cX3_join 11 = .ok (.iload_n 1, 1) := by decide +kernel
theorem dX3_join_12 : decode cX3_join 12 = .ok (.iload_n 2, 1) := by decide +kernel
theorem dX3_join_13 : decode cX3_join 13 = .ok (.invokevirtual 61, 3) := by decide +kernel
theorem dX3_join_16 : decode cX3_join 16 = .ok (.ifCond .ne 13, 3) := by decide +kernel
theorem dX3_join_19 : decode cX3_join 19 = .ok (.aload_n 0, 1) := by decide +kernel
theorem dX3_join_20 : decode cX3_join 20 = .ok (.dup, 1) := by decide +kernel
theorem dX3_join_21 : decode cX3_join 21 = .ok (.getfield 39, 3) := by decide +kernel
theorem dX3_join_24 : decode cX3_join 24 = .ok (.iconst 1, 1) := by decide +kernel
theorem dX3_join_25 : decode cX3_join 25 = .ok (.iadd, 1) := by decide +kernel
theorem dX3_join_26 : decode cX3_join 26 = .ok (.putfield 39, 3) := by decide +kernel
theorem dX3_join_29 : decode cX3_join 29 = .ok (.aload_n 0, 1) := by decide +kernel
theorem dX3_join_30 : decode cX3_join 30 = .ok (.getfield 25, 3) := by decide +kernel
theorem dX3_join_33 : decode cX3_join 33 = .ok (.iload_n 1, 1) := by decide +kernel
theorem dX3_join_34 : decode cX3_join 34 = .ok (.iload_n 2, 1) := by decide +kernel
theorem dX3_join_35 : decode cX3_join 35 = .ok (.invokestatic 65, 3) := by decide +kernel
theorem dX3_join_38 : decode cX3_join 38 = .ok (.iload_n 3, 1) := by decide +kernel
theorem dX3_join_39 : decode cX3_join 39 = .ok (.iastore, 1) := by decide +kernel
theorem dX3_join_40 : decode cX3_join 40 = .ok (.aload_n 0, 1) := by decide +kernel
theorem dX3_join_41 : decode cX3_join 41 = .ok (.getfield 25, 3) := by decide +kernel
theorem dX3_join_44 : decode cX3_join 44 = .ok (.iload_n 2, 1) := by decide +kernel
theorem dX3_join_45 : decode cX3_join 45 = .ok (.iload_n 1, 1) := by decide +kernel
theorem dX3_join_46 : decode cX3_join 46 = .ok (.invokestatic 65, 3) := by decide +kernel
theorem dX3_join_49 : decode cX3_join 49 = .ok (.iload_n 3, 1) := by decide +kernel
theorem dX3_join_50 : decode cX3_join 50 = .ok (.iastore, 1) := by decide +kernel
theorem dX3_join_51 : decode cX3_join 51 = .ok (.aload_n 0, 1) := by decide +kernel
theorem dX3_join_52 : decode cX3_join 52 = .ok (.getfield 28, 3) := by decide +kernel
theorem dX3_join_55 : decode cX3_join 55 = .ok (.iload_n 1, 1) := by decide +kernel
theorem dX3_join_56 : decode cX3_join 56 = .ok (.iload_n 2, 1) := by decide +kernel
theorem dX3_join_57 : decode cX3_join 57 = .ok (.invokestatic 65, 3) := by decide +kernel
theorem dX3_join_60 : decode cX3_join 60 = .ok (.iload 4, 2) := by decide +kernel
theorem dX3_join_62 : decode cX3_join 62 = .ok (.iastore, 1) := by decide +kernel
theorem dX3_join_63 : decode cX3_join 63 = .ok (.aload_n 0, 1) := by decide +kernel
theorem dX3_join_64 : decode cX3_join 64 = .ok (.getfield 28, 3) := by decide +kernel
theorem dX3_join_67 : decode cX3_join 67 = .ok (.iload_n 2, 1) := by decide +kernel
theorem dX3_join_68 : decode cX3_join 68 = .ok (.iload_n 1, 1) := by decide +kernel
theorem dX3_join_69 : decode cX3_join 69 = .ok (.invokestatic 65, 3) := by decide +kernel
theorem dX3_join_72 : decode cX3_join 72 = .ok (.iload 4, 2) := by decide +kernel
theorem dX3_join_74 : decode cX3_join 74 = .ok (.iastore, 1) := by decide +kernel
theorem dX3_join_75 : decode cX3_join 75 = .ok (.return_, 1) := by decide +kernel
set_option maxRecDepth 20000 in
theorem ggX3_part_X3_hasLine : GoodIn wsX3_part wsX3_hasLine := goodIn_r _ [7, 2, 11, 12, 13, 14, 15, 16, 17, 18, 19] (by decide +kernel) (by decide +kernel)
set_option maxRecDepth 20000 in
theorem gX3_part_X3_hasLine : GoodIn wsX3_part (wsV RX3 61 RX3 yX3_hasLine wsX3_hasLine) := goodIn_app (goodIn_of _ (by decide +kernel)) ggX3_part_X3_hasLine
set_option maxRecDepth 20000 in
theorem ggX3_part_X3_pair : GoodIn wsX3_part wsX3_pair := goodIn_r _ [10] (by decide +kernel) (by decide +kernel)
set_option maxRecDepth 20000 in
theorem gX3_part_X3_pair : GoodIn wsX3_part (va_wsS RX3 65 yX3_pair wsX3_pair) := goodIn_app (goodIn_of _ (by decide +kernel)) ggX3_part_X3_pair
theorem dX3_part_0 : decode cX3_part 0 = .ok (.aload_n 0, 1) := by decide +kernel
theorem dX3_part_1 : decode cX3_part 1 = .ok (.iload_n 1, 1) := by decide +kernel
theorem dX3_part_2 : decode cX3_part 2 = .ok (.iload_n 2, 1) := by decide +kernel
theorem dX3_part_3 : decode cX3_part 3 = .ok (.invokevirtual 61, 3) := by decide +kernel
theorem dX3_part_6 : decode cX3_part 6 = .ok (.ifCond .ne 4, 3) := by decide +kernel
theorem dX3_part_9 : decode cX3_part 9 = .ok (.return_, 1) := by decide +kernel
theorem dX3_part_10 : decode cX3_part 10 = .ok (.aload_n 0, 1) := by decide +kernel
theorem dX3_part_11 : decode cX3_part 11 = .ok (.dup, 1) := by decide +kernel
theorem dX3_part_12 : decode cX3_part 12 = .ok (.getfield 39, 3) := by decide +kernel
theorem dX3_part_15 : decode cX3_part 15 = .ok (.iconst 1, 1) := by decide +kernel
theorem dX3_part_16 : decode cX3_part 16 = .ok (.isub, 1) := by decide +kernel
theorem dX3_part_17 : decode cX3_part 17 = .ok (.putfield 39, 3) := by decide +kernel
theorem dX3_part_20 : decode cX3_part 20 = .ok (.aload_n 0, 1) := by decide +kernel
theorem dX3_part_21 : decode cX3_part 21 = .ok (.getfield 25, 3) := by decide +kernel
theorem dX3_part_24 : decode cX3_part 24 = .ok (.iload_n 1, 1) := by decide +kernel
theorem dX3_part_25 : decode cX3_part 25 = .ok (.iload_n 2, 1) := by decide +kernel
theorem dX3_part_26 : decode cX3_part 26 = .ok (.invokestatic 65, 3) := by decide +kernel
theorem dX3_part_29 : decode cX3_part 29 = .ok (.iconst (-1), 1) := by decide +kernel
theorem dX3_part_30 : decode cX3_part 30 = .ok (.iastore, 1) := by decide +kernel
theorem dX3_part_31 : decode cX3_part 31 = .ok (.aload_n 0, 1) := by decide +kernel
theorem dX3_part_32 : decode cX3_part 32 = .ok (.getfield 25, 3) := by decide +kernel
theorem dX3_part_35 : decode cX3_part 35 = .ok (.iload_n 2, 1) := by decide +kernel
theorem dX3_part_36 : decode cX3_part 36 = .ok (.iload_n 1, 1) := by decide +kernel
theorem dX3_part_37 : decode cX3_part 37 = .ok (.invokestatic 65, 3) := by decide +kernel
theorem dX3_part_40 : decode cX3_part 40 = .ok (.iconst (-1), 1) := by decide +kernel
theorem dX3_part_41 : decode cX3_part 41 = .ok (.iastore, 1) := by decide +kernel
theorem dX3_part_42 : decode cX3_part 42 = .ok (.return_, 1) := by decide +kernel
set_option maxRecDepth 20000 in
theorem ggX3_joinByForm_X3_isInForm : GoodIn wsX3_joinByForm wsX3_isInForm := goodIn_r _ [6, 1, 7, 8, 9, 10, 11, 12, 13, 36, 37, 38, 39, 40, 41, 42, 43, 44] (by decide +kernel) (by decide +kernel)
set_option maxRecDepth 20000 in
theorem gX3_joinByForm_X3_isInForm : GoodIn wsX3_joinByForm (wsV RX3 72 RX3 yX3_isInForm wsX3_isInForm) := goodIn_app (goodIn_of _ (by decide +kernel)) ggX3_joinByForm_X3_isInForm
set_option maxRecDepth 20000 in
theorem ggX3_joinByForm_X3_join : GoodIn wsX3_joinByForm wsX3_join := goodIn_r _ [17, 18, 19, 20, 21, 22, 23, 5, 24, 25, 26, 27, 28, 1, 29, 30, 31, 32, 33, 34, 35, 36, 37, 38, 39, 40, 41, 42, 43, 44] (by decide +kernel) (by decide +kernel)
set_option maxRecDepth 20000 in
theorem gX3_joinByForm_X3_join : GoodIn wsX3_joinByForm (wsV RX3 76 RX3 yX3_join wsX3_join) := goodIn_app (goodIn_of _ (by decide +kernel)) ggX3_joinByForm_X3_join
theorem dX3_joinByForm_0 : decode cX3_joinByForm 0 = .ok (.iconst 0, 1) := by decide +kernel
theorem dX3_joinByForm_1 : decode cX3_joinByForm 1 = .ok (.istore 4, 2) := by decide +kernel
theorem dX3_joinByForm_3 : decode cX3_joinByForm 3 = .ok (.iload 4, 2) := by decide +kernel
theorem dX3_joinByForm_5 : decode cX3_joinByForm 5 = .ok (.aload_n 0, 1) := by decide +kernel
theorem dX3_joinByForm_6 : decode cX3_joinByForm 6 = .ok (.getfield 35, 3) := by decide +kernel
theorem dX3_joinByForm_9 : decode cX3_joinByForm 9 = .ok (.if_icmp .ge 52, 3) := by decide +kernel
theorem dX3_joinByForm_12 : decode cX3_joinByForm 12 = .ok (.iload 4, 2) := by decide +kernel
theorem dX3_joinByForm_14 : decode cX3_joinByForm 14 = .ok (.iconst 1, 1) := by decide +kernel
theorem dX3_joinByForm_15 : decode cX3_joinByForm 15 = .ok (.iadd, 1) := by decide +kernel
theorem dX3_joinByForm_16 : decode cX3_joinByForm 16 = .ok (.istore 5, 2) := by decide +kernel
theorem dX3_joinByForm_18 : decode cX3_joinByForm 18 = .ok (.iload 5, 2) := by decide +kernel
theorem dX3_joinByForm_20 : decode cX3_joinByForm 20 = .ok (.aload_n 0, 1) := by decide +kernel
theorem dX3_joinByForm_21 : decode cX3_joinByForm 21 = .ok (.getfield 35, 3) := by decide +kernel
theorem dX3_joinByForm_24 : decode cX3_joinByForm 24 = .ok (.if_icmp .ge 31, 3) := by decide +kernel
theorem dX3_joinByForm_27 : decode cX3_joinByForm 27 = .ok (.aload_n 0, 1) := by decide +kernel
theorem dX3_joinByForm_28 : decode cX3_joinByForm 28 = .ok (.iload_n 1, 1) := by decide +kernel
theorem dX3_joinByForm_29 : decode cX3_joinByForm 29 = .ok (.iload 4, 2) := by decide +kernel
theorem dX3_joinByForm_31 : decode cX3_joinByForm 31 = .ok (.iload 5, 2) := by decide +kernel
theorem dX3_joinByForm_33 : decode cX3_joinByForm 33 = .ok (.invokevirtual 72, 3) := by decide +kernel
theorem dX3_joinByForm_36 : decode cX3_joinByForm 36 = .ok (.ifCond .eq 13, 3) := by decide +kernel
theorem dX3_joinByForm_39 : decode cX3_joinByForm 39 = .ok (.aload_n 0, 1) := by decide +kernel
theorem dX3_joinByForm_40 : decode cX3_joinByForm 40 = .ok (.iload 4, 2) := by decide +kernel
theorem dX3_joinByForm_42 : decode cX3_joinByForm 42 = .ok (.iload 5, 2) := by decide +kernel
theorem dX3_joinByForm_44 : decode cX3_joinByForm 44 = .ok (.iload_n 2, 1) := by decide +kernel
theorem dX3_joinByForm_45 : decode cX3_joinByForm 45 = .ok (.iload_n 3, 1) := by decide +kernel
theorem dX3_joinByForm_46 : decode cX3_joinByForm 46 = .ok (.invokevirtual 76, 3) := by decide +kernel
theorem dX3_joinByForm_49 : decode cX3_joinByForm 49 = .ok (.iinc 5 1, 3) := by decide +kernel
theorem dX3_joinByForm_52 : decode cX3_joinByForm 52 = .ok (.goto (-34), 3) := by decide +kernel
theorem dX3_joinByForm_55 : decode cX3_joinByForm 55 = .ok (.iinc 4 1, 3) := by decide +kernel
theorem dX3_joinByForm_58 : decode cX3_joinByForm 58 = .ok (.goto (-55), 3) := by decide +kernel
theorem dX3_joinByForm_61 : decode cX3_joinByForm 61 = .ok (.return_, 1) := by decide +kernel
set_option maxRecDepth 20000 in
theorem ggX3_isInForm_J6_bitCount_0f7a4 : GoodIn wsX3_isInForm wsJ6_bitCount_0f7a4 := goodIn_r _ [5, 6, 7, 8] (by decide +kernel) (by decide +kernel)
set_option maxRecDepth 20000 in
theorem gX3_isInForm_J6_bitCount_0f7a4 : GoodIn wsX3_isInForm (va_wsS RX3 80 yJ6_bitCount_0f7a4 wsJ6_bitCount_0f7a4) := goodIn_app (goodIn_of _ (by decide +kernel)) ggX3_isInForm_J6_bitCount_0f7a4
theorem dX3_isInForm_0 : decode cX3_isInForm 0 = .ok (.iload_n 1, 1) := by decide +kernel
theorem dX3_isInForm_1 : decode cX3_isInForm 1 = .ok (.tableswitch 69 0 2 #[27, 54, 56], 27) := by decide +kernel
theorem dX3_isInForm_28 : decode cX3_isInForm 28 = .ok (.iload_n 3, 1) := by decide +kernel
theorem dX3_isInForm_29 : decode cX3_isInForm 29 = .ok (.iload_n 2, 1) := by decide +kernel
theorem dX3_isInForm_30 : decode cX3_isInForm 30 = .ok (.iconst 1, 1) := by decide +kernel
theorem dX3_isInForm_31 : decode cX3_isInForm 31 = .ok (.iadd, 1) := by decide +kernel
theorem dX3_isInForm_32 : decode cX3_isInForm 32 = .ok (.if_icmp .eq 17, 3) := by decide +kernel
theorem dX3_isInForm_35 : decode cX3_isInForm 35 = .ok (.iload_n 2, 1) := by decide +kernel
theorem dX3_isInForm_36 : decode cX3_isInForm 36 = .ok (.ifCond .ne 17, 3) := by decide +kernel
theorem dX3_isInForm_39 : decode cX3_isInForm 39 = .ok (.iload_n 3, 1) := by decide +kernel
theorem dX3_isInForm_40 : decode cX3_isInForm 40 = .ok (.aload_n 0, 1) := by decide +kernel
theorem dX3_isInForm_41 : decode cX3_isInForm 41 = .ok (.getfield 35, 3) := by decide +kernel
theorem dX3_isInForm_44 : decode cX3_isInForm 44 = .ok (.iconst 1, 1) := by decide +kernel
theorem dX3_isInForm_45 : decode cX3_isInForm 45 = .ok (.isub, 1) := by decide +kernel
theorem dX3_isInForm_46 : decode cX3_isInForm 46 = .ok (.if_icmp .ne 7, 3) := by decide +kernel
theorem dX3_isInForm_49 : decode cX3_isInForm 49 = .ok (.iconst 1, 1) := by decide +kernel
theorem dX3_isInForm_50 : decode cX3_isInForm 50 = .ok (.goto 4, 3) := by decide +kernel
theorem dX3_isInForm_53 : decode cX3_isInForm 53 = .ok (.iconst 0, 1) := by decide +kernel
theorem dX3_isInForm_54 : decode cX3_isInForm 54 = .ok (.ireturn, 1) := by decide +kernel
theorem dX3_isInForm_55 : decode cX3_isInForm 55 = .ok (.iconst 1, 1) := by decide +kernel
theorem dX3_isInForm_56 : decode cX3_isInForm 56 = .ok (.ireturn, 1) := by decide +kernel
theorem dX3_isInForm_57 : decode cX3_isInForm 57 = .ok (.iload_n 3, 1) := by decide +kernel
theorem dX3_isInForm_58 : decode cX3_isInForm 58 = .ok (.iload_n 2, 1) := by decide +kernel
theorem dX3_isInForm_59 : decode cX3_isInForm 59 = .ok (.iconst 1, 1) := by decide +kernel
theorem dX3_isInForm_60 : decode cX3_isInForm 60 = .ok (.iadd, 1) := by decide +kernel
theorem dX3_isInForm_61 : decode cX3_isInForm 61 = .ok (.if_icmp .ne 7, 3) := by decide +kernel
theorem dX3_isInForm_64 : decode cX3_isInForm 64 = .ok (.iconst 1, 1) := by decide +kernel
theorem dX3_isInForm_65 : decode cX3_isInForm 65 = .ok (.goto 4, 3) := by decide +kernel
theorem dX3_isInForm_68 : decode cX3_isInForm 68 = .ok (.iconst 0, 1) := by decide +kernel
theorem dX3_isInForm_69 : decode cX3_isInForm 69 = .ok (.ireturn, 1) := by decide +kernel
theorem dX3_isInForm_70 : decode cX3_isInForm 70 = .ok (.iload_n 2, 1) := by decide +kernel
theorem dX3_isInForm_71 : decode cX3_isInForm 71 = .ok (.iload_n 3, 1) := by decide +kernel
theorem dX3_isInForm_72 : decode cX3_isInForm 72 = .ok (.ixor, 1) := by decide +kernel
theorem dX3_isInForm_73 : decode cX3_isInForm 73 = .ok (.invokestatic 80, 3) := by decide +kernel
theorem dX3_isInForm_76 : decode cX3_isInForm 76 = .ok (.iconst 1, 1) := by decide +kernel
theorem dX3_isInForm_77 : decode cX3_isInForm 77 = .ok (.if_icmp .ne 7, 3) := by decide +kernel
theorem dX3_isInForm_80 : decode cX3_isInForm 80 = .ok (.iconst 1, 1) := by decide +kernel
theorem dX3_isInForm_81 : decode cX3_isInForm 81 = .ok (.goto 4, 3) := by decide +kernel
theorem dX3_isInForm_84 : decode cX3_isInForm 84 = .ok (.iconst 0, 1) := by decide +kernel
theorem dX3_isInForm_85 : decode cX3_isInForm 85 = .ok (.ireturn, 1) := by decide +kernel
theorem dX3_rankAnew_0 : decode cX3_rankAnew 0 = .ok (.aload_n 0, 1) := by decide +kernel
theorem dX3_rankAnew_1 : decode cX3_rankAnew 1 = .ok (.iconst 0, 1) := by decide +kernel
theorem dX3_rankAnew_2 : decode cX3_rankAnew 2 = .ok (.putfield 51, 3) := by decide +kernel
theorem dX3_rankAnew_5 : decode cX3_rankAnew 5 = .ok (.iconst 0, 1) := by decide +kernel
theorem dX3_rankAnew_6 : decode cX3_rankAnew 6 = .ok (.istore_n 1, 1) := by decide +kernel
theorem dX3_rankAnew_7 : decode cX3_rankAnew 7 = .ok (.iload_n 1, 1) := by decide +kernel
theorem dX3_rankAnew_8 : decode cX3_rankAnew 8 = .ok (.aload_n 0, 1) := by decide +kernel
theorem dX3_rankAnew_9 : decode cX3_rankAnew 9 = .ok (.getfield 35, 3) := by decide +kernel
theorem dX3_rankAnew_12 : decode cX3_rankAnew 12 = .ok (.if_icmp .ge 54, 3) := by decide +kernel
theorem dX3_rankAnew_15 : decode cX3_rankAnew 15 = .ok (.iload_n 1, 1) := by decide +kernel
theorem dX3_rankAnew_16 : decode cX3_rankAnew 16 = .ok (.bipush 16, 2) := by decide +kernel
theorem dX3_rankAnew_18 : decode cX3_rankAnew 18 = .ok (.if_icmp .ge 48, 3) := by decide +kernel
theorem dX3_rankAnew_21 : decode cX3_rankAnew 21 = .ok (.aload_n 0, 1) := by decide +kernel
theorem dX3_rankAnew_22 : decode cX3_rankAnew 22 = .ok (.getfield 9, 3) := by decide +kernel
theorem dX3_rankAnew_25 : decode cX3_rankAnew 25 = .ok (.iload_n 1, 1) := by decide +kernel
theorem dX3_rankAnew_26 : decode cX3_rankAnew 26 = .ok (.baload, 1) := by decide +kernel
theorem dX3_rankAnew_27 : decode cX3_rankAnew 27 = .ok (.ifCond .eq 33, 3) := by decide +kernel
theorem dX3_rankAnew_30 : decode cX3_rankAnew 30 = .ok (.aload_n 0, 1) := by decide +kernel
theorem dX3_rankAnew_31 : decode cX3_rankAnew 31 = .ok (.getfield 19, 3) := by decide +kernel
theorem dX3_rankAnew_34 : decode cX3_rankAnew 34 = .ok (.aload_n 0, 1) := by decide +kernel
theorem dX3_rankAnew_35 : decode cX3_rankAnew 35 = .ok (.getfield 51, 3) := by decide +kernel
theorem dX3_rankAnew_38 : decode cX3_rankAnew 38 = .ok (.iload_n 1, 1) := by decide +kernel
theorem dX3_rankAnew_39 : decode cX3_rankAnew 39 = .ok (.iastore, 1) := by decide +kernel
theorem dX3_rankAnew_40 : decode cX3_rankAnew 40 = .ok (.aload_n 0, 1) := by decide +kernel
theorem dX3_rankAnew_41 : decode cX3_rankAnew 41 = .ok (.getfield 22, 3) := by decide +kernel
theorem dX3_rankAnew_44 : decode cX3_rankAnew 44 = .ok (.iload_n 1, 1) := by decide +kernel
theorem dX3_rankAnew_45 : decode cX3_rankAnew 45 = .ok (.aload_n 0, 1) := by decide +kernel
theorem dX3_rankAnew_46 : decode cX3_rankAnew 46 = .ok (.getfield 51, 3) := by decide +kernel
theorem dX3_rankAnew_49 : decode cX3_rankAnew 49 = .ok (.iastore, 1) := by decide +kernel
theorem dX3_rankAnew_50 : decode cX3_rankAnew 50 = .ok (.aload_n 0, 1) := by decide +kernel
theorem dX3_rankAnew_51 : decode cX3_rankAnew 51 = .ok (.dup, 1) := by decide +kernel
theorem dX3_rankAnew_52 : decode cX3_rankAnew 52 = .ok (.getfield 51, 3) := by decide +kernel
theorem dX3_rankAnew_55 : decode cX3_rankAnew 55 = .ok (.iconst 1, 1) := by decide +kernel
theorem dX3_rankAnew_56 : decode cX3_rankAnew 56 = .ok (.iadd, 1) := by decide +kernel
theorem dX3_rankAnew_57 : decode cX3_rankAnew 57 = .ok (.putfield 51, 3) := by decide +kernel
theorem dX3_rankAnew_60 : decode cX3_rankAnew 60 = .ok (.iinc 1 1, 3) := by decide +kernel
theorem dX3_rankAnew_63 : decode cX3_rankAnew 63 = .ok (.goto (-56), 3) := by decide +kernel
theorem dX3_rankAnew_66 : decode cX3_rankAnew 66 = .ok (.return_, 1) := by decide +kernel
theorem dX3_pair_0 : decode cX3_pair 0 = .ok (.iload_n 0, 1) := by decide +kernel
theorem dX3_pair_1 : decode cX3_pair 1 = .ok (.bipush 16, 2) := by decide +kernel
theorem dX3_pair_3 : decode cX3_pair 3 = .ok (.imul, 1) := by decide +kernel
theorem dX3_pair_4 : decode cX3_pair 4 = .ok (.iload_n 1, 1) := by decide +kernel
theorem dX3_pair_5 : decode cX3_pair 5 = .ok (.iadd, 1) := by decide +kernel
theorem dX3_pair_6 : decode cX3_pair 6 = .ok (.ireturn, 1) := by decide +kernel
theorem dX4_init_0 : decode cX4_init 0 = .ok (.aload_n 0, 1) := by decide +kernel
theorem dX4_init_1 : decode cX4_init 1 = .ok (.invokespecial 3, 3) := by decide +kernel
theorem dX4_init_4 : decode cX4_init 4 = .ok (.aload_n 0, 1) := by decide +kernel
theorem dX4_init_5 : decode cX4_init 5 = .ok (.sipush 1200, 3) := by decide +kernel
theorem dX4_init_8 : decode cX4_init 8 = .ok (.newarray .int, 2) := by decide +kernel
theorem dX4_init_10 : decode cX4_init 10 = .ok (.putfield 9, 3) := by decide +kernel
theorem dX4_init_13 : decode cX4_init 13 = .ok (.return_, 1) := by decide +kernel
theorem dX4_empty_0 : decode cX4_empty 0 = .ok (.aload_n 0, 1) := by decide +kernel
theorem dX4_empty_1 : decode cX4_empty 1 = .ok (.iconst 0, 1) := by decide +kernel
theorem dX4_empty_2 : decode cX4_empty 2 = .ok (.putfield 15, 3) := by decide +kernel
theorem dX4_empty_5 : decode cX4_empty 5 = .ok (.return_, 1) := by decide +kernel
theorem dX4_size_0 : decode cX4_size 0 = .ok (.aload_n 0, 1) := by decide +kernel
theorem dX4_size_1 : decode cX4_size 1 = .ok (.getfield 15, 3) := by decide +kernel
theorem dX4_size_4 : decode cX4_size 4 = .ok (.ireturn, 1) := by decide +kernel
theorem dX4_isFull_0 : decode cX4_isFull 0 = .ok (.aload_n 0, 1) := by decide +kernel
theorem dX4_isFull_1 : decode cX4_isFull 1 = .ok (.getfield 15, 3) := by decide +kernel
theorem dX4_isFull_4 : decode cX4_isFull 4 = .ok (.sipush 1200, 3) := by decide +kernel
theorem dX4_isFull_7 : decode cX4_isFull 7 = .ok (.if_icmp .lt 7, 3) := by decide +kernel
theorem dX4_isFull_10 : decode cX4_isFull 10 = .ok (.iconst 1, 1) := by decide +kernel
theorem dX4_isFull_11 : decode cX4_isFull 11 = .ok (.goto 4, 3) := by decide +kernel
theorem dX4_isFull_14 : decode cX4_isFull 14 = .ok (.iconst 0, 1) := by decide +kernel
theorem dX4_isFull_15 : decode cX4_isFull 15 = .ok (.ireturn, 1) := by decide +kernel
theorem dX4_steps_0 : decode cX4_steps 0 = .ok (.aload_n 0, 1) := by decide +kernel
theorem dX4_steps_1 : decode cX4_steps 1 = .ok (.getfield 15, 3) := by decide +kernel
theorem dX4_steps_4 : decode cX4_steps 4 = .ok (.ifCond .gt 7, 3) := by decide +kernel
theorem dX4_steps_7 : decode cX4_steps 7 = .ok (.iconst 0, 1) := by decide +kernel
theorem dX4_steps_8 : decode cX4_steps 8 = .ok (.goto 19, 3) := by decide +kernel
theorem dX4_steps_11 : decode cX4_steps 11 = .ok (.aload_n 0, 1) := by decide +kernel
theorem dX4_steps_12 : decode cX4_steps 12 = .ok (.getfield 9, 3) := by decide +kernel
theorem dX4_steps_15 : decode cX4_steps 15 = .ok (.aload_n 0, 1) := by decide +kernel
theorem dX4_steps_16 : decode cX4_steps 16 = .ok (.getfield 15, 3) := by decide +kernel
theorem dX4_steps_19 : decode cX4_steps 19 = .ok (.iconst 1, 1) := by decide +kernel
theorem dX4_steps_20 : decode cX4_steps 20 = .ok (.isub, 1) := by decide +kernel
theorem dX4_steps_21 : decode cX4_steps 21 = .ok (.iaload, 1) := by decide +kernel
theorem dX4_steps_22 : decode cX4_steps 22 = .ok (.bipush 17, 2) := by decide +kernel
theorem dX4_steps_24 : decode cX4_steps 24 = .ok (.ishr, 1) := by decide +kernel
theorem dX4_steps_25 : decode cX4_steps 25 = .ok (.iconst 1, 1) := by decide +kernel
theorem dX4_steps_26 : decode cX4_steps 26 = .ok (.iadd, 1) := by decide +kernel
theorem dX4_steps_27 : decode cX4_steps 27 = .ok (.ireturn, 1) := by decide +kernel
set_option maxRecDepth 20000 in
theorem ggX4_letters_X4_endsLetter : GoodIn wsX4_letters wsX4_endsLetter := goodIn_r _ [6, 1, 7, 8, 9, 5, 10, 11, 12, 13] (by decide +kernel) (by decide +kernel)
set_option maxRecDepth 20000 in
theorem gX4_letters_X4_endsLetter : GoodIn wsX4_letters (wsV RX4 19 RX4 yX4_endsLetter wsX4_endsLetter) := goodIn_app (goodIn_of _ (by decide +kernel)) ggX4_letters_X4_endsLetter
theorem dX4_letters_0 : decode cX4_letters 0 = .ok (.iconst 0, 1) := by decide +kernel
theorem dX4_letters_1 : decode cX4_letters 1 = .ok (.istore_n 1, 1) := by decide +kernel
theorem dX4_letters_2 : decode cX4_letters 2 = .ok (.iconst 0, 1) := by decide +kernel
theorem dX4_letters_3 : decode cX4_letters 3 = .ok (.istore_n 2, 1) := by decide +kernel
theorem dX4_letters_4 : decode cX4_letters 4 = .ok (.iload_n 2, 1) := by decide +kernel
theorem dX4_letters_5 : decode cX4_letters 5 = .ok (.aload_n 0, 1) := by decide +kernel
theorem dX4_letters_6 : decode cX4_letters 6 = .ok (.getfield 15, 3) := by decide +kernel
theorem dX4_letters_9 : decode cX4_letters 9 = .ok (.if_icmp .ge 20, 3) := by decide +kernel
theorem dX4_letters_12 : decode cX4_letters 12 = .ok (.aload_n 0, 1) := by decide +kernel
theorem dX4_letters_13 : decode cX4_letters 13 = .ok (.iload_n 2, 1) := by decide +kernel
theorem dX4_letters_14 : decode cX4_letters 14 = .ok (.invokevirtual 19, 3) := by decide +kernel
theorem dX4_letters_17 : decode cX4_letters 17 = .ok (.ifCond .eq 6, 3) := by decide +kernel
theorem dX4_letters_20 : decode cX4_letters 20 = .ok (.iinc 1 1, 3) := by decide +kernel
theorem dX4_letters_23 : decode cX4_letters 23 = .ok (.iinc 2 1, 3) := by decide +kernel
theorem dX4_letters_26 : decode cX4_letters 26 = .ok (.goto (-22), 3) := by decide +kernel
theorem dX4_letters_29 : decode cX4_letters 29 = .ok (.iload_n 1, 1) := by decide +kernel
theorem dX4_letters_30 : decode cX4_letters 30 = .ok (.ireturn, 1) := by decide +kernel
set_option maxRecDepth 20000 in
theorem ggX4_step_X4_sendAt : GoodIn wsX4_step wsX4_sendAt := goodIn_r _ [5, 6, 7, 8, 9] (by decide +kernel) (by decide +kernel)
set_option maxRecDepth 20000 in
theorem gX4_step_X4_sendAt : GoodIn wsX4_step (wsV RX4 23 RX4 yX4_sendAt wsX4_sendAt) := goodIn_app (goodIn_of _ (by decide +kernel)) ggX4_step_X4_sendAt
theorem dX4_step_0 : decode cX4_step 0 = .ok (.aload_n 0, 1) := by decide +kernel
theorem dX4_step_1 : decode cX4_step 1 = .ok (.iload_n 1, 1) := by decide +kernel
theorem dX4_step_2 : decode cX4_step 2 = .ok (.invokevirtual 23, 3) := by decide +kernel
theorem dX4_step_5 : decode cX4_step 5 = .ok (.bipush 17, 2) := by decide +kernel
theorem dX4_step_7 : decode cX4_step 7 = .ok (.ishr, 1) := by decide +kernel
theorem dX4_step_8 : decode cX4_step 8 = .ok (.ireturn, 1) := by decide +kernel
set_option maxRecDepth 20000 in
theorem ggX4_from_X4_sendAt : GoodIn wsX4_from wsX4_sendAt := goodIn_r _ [5, 6, 7, 8, 9] (by decide +kernel) (by decide +kernel)
set_option maxRecDepth 20000 in
theorem gX4_from_X4_sendAt : GoodIn wsX4_from (wsV RX4 23 RX4 yX4_sendAt wsX4_sendAt) := goodIn_app (goodIn_of _ (by decide +kernel)) ggX4_from_X4_sendAt
theorem dX4_from_0 : decode cX4_from 0 = .ok (.aload_n 0, 1) := by decide +kernel
theorem dX4_from_1 : decode cX4_from 1 = .ok (.iload_n 1, 1) := by decide +kernel
theorem dX4_from_2 : decode cX4_from 2 = .ok (.invokevirtual 23, 3) := by decide +kernel
theorem dX4_from_5 : decode cX4_from 5 = .ok (.bipush 13, 2) := by decide +kernel
theorem dX4_from_7 : decode cX4_from 7 = .ok (.ishr, 1) := by decide +kernel
theorem dX4_from_8 : decode cX4_from 8 = .ok (.bipush 15, 2) := by decide +kernel
theorem dX4_from_10 : decode cX4_from 10 = .ok (.iand, 1) := by decide +kernel
theorem dX4_from_11 : decode cX4_from 11 = .ok (.ireturn, 1) := by decide +kernel
set_option maxRecDepth 20000 in
theorem ggX4_to_X4_sendAt : GoodIn wsX4_to wsX4_sendAt := goodIn_r _ [5, 6, 7, 8, 9] (by decide +kernel) (by decide +kernel)
set_option maxRecDepth 20000 in
theorem gX4_to_X4_sendAt : GoodIn wsX4_to (wsV RX4 23 RX4 yX4_sendAt wsX4_sendAt) := goodIn_app (goodIn_of _ (by decide +kernel)) ggX4_to_X4_sendAt
theorem dX4_to_0 : decode cX4_to 0 = .ok (.aload_n 0, 1) := by decide +kernel
theorem dX4_to_1 : decode cX4_to 1 = .ok (.iload_n 1, 1) := by decide +kernel
theorem dX4_to_2 : decode cX4_to 2 = .ok (.invokevirtual 23, 3) := by decide +kernel
theorem dX4_to_5 : decode cX4_to 5 = .ok (.iconst 5, 1) := by decide +kernel
theorem dX4_to_6 : decode cX4_to 6 = .ok (.ishr, 1) := by decide +kernel
theorem dX4_to_7 : decode cX4_to 7 = .ok (.bipush 15, 2) := by decide +kernel
theorem dX4_to_9 : decode cX4_to 9 = .ok (.iand, 1) := by decide +kernel
theorem dX4_to_10 : decode cX4_to 10 = .ok (.ireturn, 1) := by decide +kernel
set_option maxRecDepth 20000 in
theorem ggX4_block_X4_sendAt : GoodIn wsX4_block wsX4_sendAt := goodIn_r _ [5, 6, 7, 8, 9] (by decide +kernel) (by decide +kernel)
set_option maxRecDepth 20000 in
theorem gX4_block_X4_sendAt : GoodIn wsX4_block (wsV RX4 23 RX4 yX4_sendAt wsX4_sendAt) := goodIn_app (goodIn_of _ (by decide +kernel)) ggX4_block_X4_sendAt
theorem dX4_block_0 : decode cX4_block 0 = .ok (.aload_n 0, 1) := by decide +kernel
theorem dX4_block_1 : decode cX4_block 1 = .ok (.iload_n 1, 1) := by decide +kernel
theorem dX4_block_2 : decode cX4_block 2 = .ok (.invokevirtual 23, 3) := by decide +kernel
theorem dX4_block_5 : decode cX4_block 5 = .ok (.iconst 1, 1) := by decide +kernel
theorem dX4_block_6 : decode cX4_block 6 = .ok (.ishr, 1) := by decide +kernel
theorem dX4_block_7 : decode cX4_block 7 = .ok (.bipush 15, 2) := by decide +kernel
theorem dX4_block_9 : decode cX4_block 9 = .ok (.iand, 1) := by decide +kernel
theorem dX4_block_10 : decode cX4_block 10 = .ok (.ireturn, 1) := by decide +kernel
set_option maxRecDepth 20000 in
theorem ggX4_toBlock_X4_sendAt : GoodIn wsX4_toBlock wsX4_sendAt := goodIn_r _ [5, 6, 7, 8, 9] (by decide +kernel) (by decide +kernel)
set_option maxRecDepth 20000 in
theorem gX4_toBlock_X4_sendAt : GoodIn wsX4_toBlock (wsV RX4 23 RX4 yX4_sendAt wsX4_sendAt) := goodIn_app (goodIn_of _ (by decide +kernel)) ggX4_toBlock_X4_sendAt
theorem dX4_toBlock_0 : decode cX4_toBlock 0 = .ok (.aload_n 0, 1) := by decide +kernel
theorem dX4_toBlock_1 : decode cX4_toBlock 1 = .ok (.iload_n 1, 1) := by decide +kernel
theorem dX4_toBlock_2 : decode cX4_toBlock 2 = .ok (.invokevirtual 23, 3) := by decide +kernel
theorem dX4_toBlock_5 : decode cX4_toBlock 5 = .ok (.bipush 9, 2) := by decide +kernel
theorem dX4_toBlock_7 : decode cX4_toBlock 7 = .ok (.ishr, 1) := by decide +kernel
theorem dX4_toBlock_8 : decode cX4_toBlock 8 = .ok (.bipush 15, 2) := by decide +kernel
theorem dX4_toBlock_10 : decode cX4_toBlock 10 = .ok (.iand, 1) := by decide +kernel
theorem dX4_toBlock_11 : decode cX4_toBlock 11 = .ok (.ireturn, 1) := by decide +kernel
set_option maxRecDepth 20000 in
theorem ggX4_isAdded_X4_sendAt : GoodIn wsX4_isAdded wsX4_sendAt := goodIn_r _ [5, 6, 7, 8, 9] (by decide +kernel) (by decide +kernel)
set_option maxRecDepth 20000 in
theorem gX4_isAdded_X4_sendAt : GoodIn wsX4_isAdded (wsV RX4 23 RX4 yX4_sendAt wsX4_sendAt) := goodIn_app (goodIn_of _ (by decide +kernel)) ggX4_isAdded_X4_sendAt
theorem dX4_isAdded_0 : decode cX4_isAdded 0 = .ok (.aload_n 0, 1) := by decide +kernel
theorem dX4_isAdded_1 : decode cX4_isAdded 1 = .ok (.iload_n 1, 1) := by decide +kernel
theorem dX4_isAdded_2 : decode cX4_isAdded 2 = .ok (.invokevirtual 23, 3) := by decide +kernel
theorem dX4_isAdded_5 : decode cX4_isAdded 5 = .ok (.iconst 1, 1) := by decide +kernel
theorem dX4_isAdded_6 : decode cX4_isAdded 6 = .ok (.iand, 1) := by decide +kernel
theorem dX4_isAdded_7 : decode cX4_isAdded 7 = .ok (.ifCond .eq 7, 3) := by decide +kernel
theorem dX4_isAdded_10 : decode cX4_isAdded 10 = .ok (.iconst 1, 1) := by decide +kernel
theorem dX4_isAdded_11 : decode cX4_isAdded 11 = .ok (.goto 4, 3) := by decide +kernel
theorem dX4_isAdded_14 : decode cX4_isAdded 14 = .ok (.iconst 0, 1) := by decide +kernel
theorem dX4_isAdded_15 : decode cX4_isAdded 15 = .ok (.ireturn, 1) := by decide +kernel
set_option maxRecDepth 20000 in
theorem ggX4_source_X4_from : GoodIn wsX4_source wsX4_from := goodIn_r _ [5, 6, 7, 8, 4, 9, 10, 11, 19, 20] (by decide +kernel) (by decide +kernel)
set_option maxRecDepth 20000 in
theorem gX4_source_X4_from : GoodIn wsX4_source (wsV RX4 27 RX4 yX4_from wsX4_from) := goodIn_app (goodIn_of _ (by decide +kernel)) ggX4_source_X4_from
set_option maxRecDepth 20000 in
theorem ggX4_source_X4_block : GoodIn wsX4_source wsX4_block := goodIn_r _ [15, 6, 7, 8, 4, 9, 10, 11, 19, 20] (by decide +kernel) (by decide +kernel)
set_option maxRecDepth 20000 in
theorem gX4_source_X4_block : GoodIn wsX4_source (wsV RX4 30 RX4 yX4_block wsX4_block) := goodIn_app (goodIn_of _ (by decide +kernel)) ggX4_source_X4_block
set_option maxRecDepth 20000 in
theorem ggX4_source_X8_cell : GoodIn wsX4_source wsX8_cell := goodIn_r _ [18] (by decide +kernel) (by decide +kernel)
set_option maxRecDepth 20000 in
theorem gX4_source_X8_cell_n33 : GoodIn wsX4_source (wsX8_cell) := ggX4_source_X8_cell
theorem dX4_source_0 : decode cX4_source 0 = .ok (.aload_n 0, 1) := by decide +kernel
theorem dX4_source_1 : decode cX4_source 1 = .ok (.iload_n 1, 1) := by decide +kernel
theorem dX4_source_2 : decode cX4_source 2 = .ok (.invokevirtual 27, 3) := by decide +kernel
theorem dX4_source_5 : decode cX4_source 5 = .ok (.aload_n 0, 1) := by decide +kernel
theorem dX4_source_6 : decode cX4_source 6 = .ok (.iload_n 1, 1) := by decide +kernel
theorem dX4_source_7 : decode cX4_source 7 = .ok (.invokevirtual 30, 3) := by decide +kernel
theorem dX4_source_10 : decode cX4_source 10 = .ok (.invokestatic 33, 3) := by decide +kernel
theorem dX4_source_13 : decode cX4_source 13 = .ok (.ireturn, 1) := by decide +kernel
set_option maxRecDepth 20000 in
theorem ggX4_target_X4_to : GoodIn wsX4_target wsX4_to := goodIn_r _ [5, 6, 7, 8, 4, 9, 10, 11, 19, 20] (by decide +kernel) (by decide +kernel)
set_option maxRecDepth 20000 in
theorem gX4_target_X4_to : GoodIn wsX4_target (wsV RX4 37 RX4 yX4_to wsX4_to) := goodIn_app (goodIn_of _ (by decide +kernel)) ggX4_target_X4_to
set_option maxRecDepth 20000 in
theorem ggX4_target_X4_toBlock : GoodIn wsX4_target wsX4_toBlock := goodIn_r _ [15, 6, 7, 8, 4, 9, 10, 11, 19, 20] (by decide +kernel) (by decide +kernel)
set_option maxRecDepth 20000 in
theorem gX4_target_X4_toBlock : GoodIn wsX4_target (wsV RX4 40 RX4 yX4_toBlock wsX4_toBlock) := goodIn_app (goodIn_of _ (by decide +kernel)) ggX4_target_X4_toBlock
set_option maxRecDepth 20000 in
theorem ggX4_target_X8_cell : GoodIn wsX4_target wsX8_cell := goodIn_r _ [18] (by decide +kernel) (by decide +kernel)
set_option maxRecDepth 20000 in
theorem gX4_target_X8_cell_n33 : GoodIn wsX4_target (wsX8_cell) := ggX4_target_X8_cell
theorem dX4_target_0 : decode cX4_target 0 = .ok (.aload_n 0, 1) := by decide +kernel
theorem dX4_target_1 : decode cX4_target 1 = .ok (.iload_n 1, 1) := by decide +kernel
theorem dX4_target_2 : decode cX4_target 2 = .ok (.invokevirtual 37, 3) := by decide +kernel
theorem dX4_target_5 : decode cX4_target 5 = .ok (.aload_n 0, 1) := by decide +kernel
theorem dX4_target_6 : decode cX4_target 6 = .ok (.iload_n 1, 1) := by decide +kernel
theorem dX4_target_7 : decode cX4_target 7 = .ok (.invokevirtual 40, 3) := by decide +kernel
theorem dX4_target_10 : decode cX4_target 10 = .ok (.invokestatic 33, 3) := by decide +kernel
theorem dX4_target_13 : decode cX4_target 13 = .ok (.ireturn, 1) := by decide +kernel
set_option maxRecDepth 20000 in
theorem ggX4_endsLetter_X4_sendAt : GoodIn wsX4_endsLetter wsX4_sendAt := goodIn_r _ [6, 1, 7, 8, 9] (by decide +kernel) (by decide +kernel)
set_option maxRecDepth 20000 in
theorem gX4_endsLetter_X4_sendAt : GoodIn wsX4_endsLetter (wsV RX4 23 RX4 yX4_sendAt wsX4_sendAt) := goodIn_app (goodIn_of _ (by decide +kernel)) ggX4_endsLetter_X4_sendAt
theorem dX4_endsLetter_0 : decode cX4_endsLetter 0 = .ok (.iload_n 1, 1) := by decide +kernel
theorem dX4_endsLetter_1 : decode cX4_endsLetter 1 = .ok (.iconst 1, 1) := by decide +kernel
theorem dX4_endsLetter_2 : decode cX4_endsLetter 2 = .ok (.iadd, 1) := by decide +kernel
theorem dX4_endsLetter_3 : decode cX4_endsLetter 3 = .ok (.aload_n 0, 1) := by decide +kernel
theorem dX4_endsLetter_4 : decode cX4_endsLetter 4 = .ok (.getfield 15, 3) := by decide +kernel
theorem dX4_endsLetter_7 : decode cX4_endsLetter 7 = .ok (.if_icmp .ge 24, 3) := by decide +kernel
theorem dX4_endsLetter_10 : decode cX4_endsLetter 10 = .ok (.aload_n 0, 1) := by decide +kernel
theorem dX4_endsLetter_11 : decode cX4_endsLetter 11 = .ok (.iload_n 1, 1) := by decide +kernel
theorem dX4_endsLetter_12 : decode cX4_endsLetter 12 = .ok (.invokevirtual 23, 3) := by decide +kernel
theorem dX4_endsLetter_15 : decode cX4_endsLetter 15 = .ok (.bipush 13, 2) := by decide +kernel
theorem dX4_endsLetter_17 : decode cX4_endsLetter 17 = .ok (.ishr, 1) := by decide +kernel
theorem dX4_endsLetter_18 : decode cX4_endsLetter 18 = .ok (.aload_n 0, 1) := by decide +kernel
theorem dX4_endsLetter_19 : decode cX4_endsLetter 19 = .ok (.iload_n 1, 1) := by decide +kernel
theorem dX4_endsLetter_20 : decode cX4_endsLetter 20 = .ok (.iconst 1, 1) := by decide +kernel
theorem dX4_endsLetter_21 : decode cX4_endsLetter 21 = .ok (.iadd, 1) := by decide +kernel
theorem dX4_endsLetter_22 : decode cX4_endsLetter 22 = .ok (.invokevirtual 23, 3) := by decide +kernel
theorem dX4_endsLetter_25 : decode cX4_endsLetter 25 = .ok (.bipush 13, 2) := by decide +kernel
theorem dX4_endsLetter_27 : decode cX4_endsLetter 27 = .ok (.ishr, 1) := by decide +kernel
theorem dX4_endsLetter_28 : decode cX4_endsLetter 28 = .ok (.if_icmp .eq 7, 3) := by decide +kernel
theorem dX4_endsLetter_31 : decode cX4_endsLetter 31 = .ok (.iconst 1, 1) := by decide +kernel
theorem dX4_endsLetter_32 : decode cX4_endsLetter 32 = .ok (.goto 4, 3) := by decide +kernel
theorem dX4_endsLetter_35 : decode cX4_endsLetter 35 = .ok (.iconst 0, 1) := by decide +kernel
theorem dX4_endsLetter_36 : decode cX4_endsLetter 36 = .ok (.ireturn, 1) := by decide +kernel
set_option maxRecDepth 20000 in
theorem ggX4_endsStep_X4_step : GoodIn wsX4_endsStep wsX4_step := goodIn_r _ [6, 7, 8, 9, 5, 10, 1, 11, 12, 13] (by decide +kernel) (by decide +kernel)
set_option maxRecDepth 20000 in
theorem gX4_endsStep_X4_step : GoodIn wsX4_endsStep (wsV RX4 43 RX4 yX4_step wsX4_step) := goodIn_app (goodIn_of _ (by decide +kernel)) ggX4_endsStep_X4_step
theorem dX4_endsStep_0 : decode cX4_endsStep 0 = .ok (.iload_n 1, 1) := by decide +kernel
theorem dX4_endsStep_1 : decode cX4_endsStep 1 = .ok (.iconst 1, 1) := by decide +kernel
theorem dX4_endsStep_2 : decode cX4_endsStep 2 = .ok (.iadd, 1) := by decide +kernel
theorem dX4_endsStep_3 : decode cX4_endsStep 3 = .ok (.aload_n 0, 1) := by decide +kernel
theorem dX4_endsStep_4 : decode cX4_endsStep 4 = .ok (.getfield 15, 3) := by decide +kernel
theorem dX4_endsStep_7 : decode cX4_endsStep 7 = .ok (.if_icmp .ge 18, 3) := by decide +kernel
theorem dX4_endsStep_10 : decode cX4_endsStep 10 = .ok (.aload_n 0, 1) := by decide +kernel
theorem dX4_endsStep_11 : decode cX4_endsStep 11 = .ok (.iload_n 1, 1) := by decide +kernel
theorem dX4_endsStep_12 : decode cX4_endsStep 12 = .ok (.invokevirtual 43, 3) := by decide +kernel
theorem dX4_endsStep_15 : decode cX4_endsStep 15 = .ok (.aload_n 0, 1) := by decide +kernel
theorem dX4_endsStep_16 : decode cX4_endsStep 16 = .ok (.iload_n 1, 1) := by decide +kernel
theorem dX4_endsStep_17 : decode cX4_endsStep 17 = .ok (.iconst 1, 1) := by decide +kernel
theorem dX4_endsStep_18 : decode cX4_endsStep 18 = .ok (.iadd, 1) := by decide +kernel
theorem dX4_endsStep_19 : decode cX4_endsStep 19 = .ok (.invokevirtual 43, 3) := by decide +kernel
theorem dX4_endsStep_22 : decode cX4_endsStep 22 = .ok (.if_icmp .eq 7, 3) := by decide +kernel
theorem dX4_endsStep_25 : decode cX4_endsStep 25 = .ok (.iconst 1, 1) := by decide +kernel
theorem dX4_endsStep_26 : decode cX4_endsStep 26 = .ok (.goto 4, 3) := by decide +kernel
theorem dX4_endsStep_29 : decode cX4_endsStep 29 = .ok (.iconst 0, 1) := by decide +kernel
theorem dX4_endsStep_30 : decode cX4_endsStep 30 = .ok (.ireturn, 1) := by decide +kernel
set_option maxRecDepth 20000 in
theorem ggX4_forbids_X4_step : GoodIn wsX4_forbids wsX4_step := goodIn_r _ [6, 7, 8, 9, 5, 10, 1, 11, 24, 25] (by decide +kernel) (by decide +kernel)
set_option maxRecDepth 20000 in
theorem gX4_forbids_X4_step : GoodIn wsX4_forbids (wsV RX4 43 RX4 yX4_step wsX4_step) := goodIn_app (goodIn_of _ (by decide +kernel)) ggX4_forbids_X4_step
set_option maxRecDepth 20000 in
theorem ggX4_forbids_X4_from : GoodIn wsX4_forbids wsX4_from := goodIn_r _ [15, 7, 8, 9, 5, 10, 1, 11, 24, 25] (by decide +kernel) (by decide +kernel)
set_option maxRecDepth 20000 in
theorem gX4_forbids_X4_from : GoodIn wsX4_forbids (wsV RX4 27 RX4 yX4_from wsX4_from) := goodIn_app (goodIn_of _ (by decide +kernel)) ggX4_forbids_X4_from
set_option maxRecDepth 20000 in
theorem ggX4_forbids_X4_to : GoodIn wsX4_forbids wsX4_to := goodIn_r _ [19, 7, 8, 9, 5, 10, 1, 11, 24, 25] (by decide +kernel) (by decide +kernel)
set_option maxRecDepth 20000 in
theorem gX4_forbids_X4_to : GoodIn wsX4_forbids (wsV RX4 37 RX4 yX4_to wsX4_to) := goodIn_app (goodIn_of _ (by decide +kernel)) ggX4_forbids_X4_to
set_option maxRecDepth 20000 in
theorem ggX4_forbids_X4_toBlock : GoodIn wsX4_forbids wsX4_toBlock := goodIn_r _ [23, 7, 8, 9, 5, 10, 1, 11, 24, 25] (by decide +kernel) (by decide +kernel)
set_option maxRecDepth 20000 in
theorem gX4_forbids_X4_toBlock : GoodIn wsX4_forbids (wsV RX4 40 RX4 yX4_toBlock wsX4_toBlock) := goodIn_app (goodIn_of _ (by decide +kernel)) ggX4_forbids_X4_toBlock
theorem dX4_forbids_0 : decode cX4_forbids 0 = .ok (.iconst 0, 1) := by decide +kernel
theorem dX4_forbids_1 : decode cX4_forbids 1 = .ok (.istore 5, 2) := by decide +kernel
theorem dX4_forbids_3 : decode cX4_forbids 3 = .ok (.iload 5, 2) := by decide +kernel
theorem dX4_forbids_5 : decode cX4_forbids 5 = .ok (.aload_n 0, 1) := by decide +kernel
theorem dX4_forbids_6 : decode cX4_forbids 6 = .ok (.getfield 15, 3) := by decide +kernel
theorem dX4_forbids_9 : decode cX4_forbids 9 = .ok (.if_icmp .ge 81, 3) := by decide +kernel
theorem dX4_forbids_12 : decode cX4_forbids 12 = .ok (.aload_n 0, 1) := by decide +kernel
theorem dX4_forbids_13 : decode cX4_forbids 13 = .ok (.iload 5, 2) := by decide +kernel
theorem dX4_forbids_15 : decode cX4_forbids 15 = .ok (.invokevirtual 43, 3) := by decide +kernel
theorem dX4_forbids_18 : decode cX4_forbids 18 = .ok (.iload_n 1, 1) := by decide +kernel
theorem dX4_forbids_19 : decode cX4_forbids 19 = .ok (.if_icmp .eq 6, 3) := by decide +kernel
theorem dX4_forbids_22 : decode cX4_forbids 22 = .ok (.goto 62, 3) := by decide +kernel
theorem dX4_forbids_25 : decode cX4_forbids 25 = .ok (.aload_n 0, 1) := by decide +kernel
theorem dX4_forbids_26 : decode cX4_forbids 26 = .ok (.iload 5, 2) := by decide +kernel
theorem dX4_forbids_28 : decode cX4_forbids 28 = .ok (.invokevirtual 27, 3) := by decide +kernel
theorem dX4_forbids_31 : decode cX4_forbids 31 = .ok (.iload_n 2, 1) := by decide +kernel
theorem dX4_forbids_32 : decode cX4_forbids 32 = .ok (.if_icmp .ne 7, 3) := by decide +kernel
theorem dX4_forbids_35 : decode cX4_forbids 35 = .ok (.iconst 1, 1) := by decide +kernel
theorem dX4_forbids_36 : decode cX4_forbids 36 = .ok (.goto 4, 3) := by decide +kernel
theorem dX4_forbids_39 : decode cX4_forbids 39 = .ok (.iconst 0, 1) := by decide +kernel
theorem dX4_forbids_40 : decode cX4_forbids 40 = .ok (.istore 6, 2) := by decide +kernel
theorem dX4_forbids_42 : decode cX4_forbids 42 = .ok (.aload_n 0, 1) := by decide +kernel
theorem dX4_forbids_43 : decode cX4_forbids 43 = .ok (.iload 5, 2) := by decide +kernel
theorem dX4_forbids_45 : decode cX4_forbids 45 = .ok (.invokevirtual 37, 3) := by decide +kernel
theorem dX4_forbids_48 : decode cX4_forbids 48 = .ok (.iload_n 3, 1) := by decide +kernel
theorem dX4_forbids_49 : decode cX4_forbids 49 = .ok (.if_icmp .ne 7, 3) := by decide +kernel
theorem dX4_forbids_52 : decode cX4_forbids 52 = .ok (.iconst 1, 1) := by decide +kernel
theorem dX4_forbids_53 : decode cX4_forbids 53 = .ok (.goto 4, 3) := by decide +kernel
theorem dX4_forbids_56 : decode cX4_forbids 56 = .ok (.iconst 0, 1) := by decide +kernel
theorem dX4_forbids_57 : decode cX4_forbids 57 = .ok (.istore 7, 2) := by decide +kernel
theorem dX4_forbids_59 : decode cX4_forbids 59 = .ok (.iload 6, 2) := by decide +kernel
theorem dX4_forbids_61 : decode cX4_forbids 61 = .ok (.iload 7, 2) := by decide +kernel
theorem dX4_forbids_63 : decode cX4_forbids 63 = .ok (.if_icmp .ne 19, 3) := by decide +kernel
theorem dX4_forbids_66 : decode cX4_forbids 66 = .ok (.iload 7, 2) := by decide +kernel
theorem dX4_forbids_68 : decode cX4_forbids 68 = .ok (.ifCond .eq 16, 3) := by decide +kernel
theorem dX4_forbids_71 : decode cX4_forbids 71 = .ok (.aload_n 0, 1) := by decide +kernel
theorem dX4_forbids_72 : decode cX4_forbids 72 = .ok (.iload 5, 2) := by decide +kernel
theorem dX4_forbids_74 : decode cX4_forbids 74 = .ok (.invokevirtual 40, 3) := by decide +kernel
theorem dX4_forbids_77 : decode cX4_forbids 77 = .ok (.iload 4, 2) := by decide +kernel
theorem dX4_forbids_79 : decode cX4_forbids 79 = .ok (.if_icmp .ne 5, 3) := by decide +kernel
theorem dX4_forbids_82 : decode cX4_forbids 82 = .ok (.iconst 1, 1) := by decide +kernel
theorem dX4_forbids_83 : decode cX4_forbids 83 = .ok (.ireturn, 1) := by decide +kernel
theorem dX4_forbids_84 : decode cX4_forbids 84 = .ok (.iinc 5 1, 3) := by decide +kernel
theorem dX4_forbids_87 : decode cX4_forbids 87 = .ok (.goto (-84), 3) := by decide +kernel
theorem dX4_forbids_90 : decode cX4_forbids 90 = .ok (.iconst 0, 1) := by decide +kernel
theorem dX4_forbids_91 : decode cX4_forbids 91 = .ok (.ireturn, 1) := by decide +kernel
theorem dX4_place_0 : decode cX4_place 0 = .ok (.aload_n 0, 1) := by decide +kernel
theorem dX4_place_1 : decode cX4_place 1 = .ok (.getfield 15, 3) := by decide +kernel
theorem dX4_place_4 : decode cX4_place 4 = .ok (.sipush 1200, 3) := by decide +kernel
theorem dX4_place_7 : decode cX4_place 7 = .ok (.if_icmp .lt 4, 3) := by decide +kernel
theorem dX4_place_10 : decode cX4_place 10 = .ok (.return_, 1) := by decide +kernel
theorem dX4_place_11 : decode cX4_place 11 = .ok (.iload_n 1, 1) := by decide +kernel
theorem dX4_place_12 : decode cX4_place 12 = .ok (.bipush 17, 2) := by decide +kernel
theorem dX4_place_14 : decode cX4_place 14 = .ok (.ishl, 1) := by decide +kernel
theorem dX4_place_15 : decode cX4_place 15 = .ok (.iload_n 2, 1) := by decide +kernel
theorem dX4_place_16 : decode cX4_place 16 = .ok (.bipush 13, 2) := by decide +kernel
theorem dX4_place_18 : decode cX4_place 18 = .ok (.ishl, 1) := by decide +kernel
theorem dX4_place_19 : decode cX4_place 19 = .ok (.ior, 1) := by decide +kernel
theorem dX4_place_20 : decode cX4_place 20 = .ok (.iload 5, 2) := by decide +kernel
theorem dX4_place_22 : decode cX4_place 22 = .ok (.bipush 9, 2) := by decide +kernel
theorem dX4_place_24 : decode cX4_place 24 = .ok (.ishl, 1) := by decide +kernel
theorem dX4_place_25 : decode cX4_place 25 = .ok (.ior, 1) := by decide +kernel
theorem dX4_place_26 : decode cX4_place 26 = .ok (.iload_n 3, 1) := by decide +kernel
theorem dX4_place_27 : decode cX4_place 27 = .ok (.iconst 5, 1) := by decide +kernel
theorem dX4_place_28 : decode cX4_place 28 = .ok (.ishl, 1) := by decide +kernel
theorem dX4_place_29 : decode cX4_place 29 = .ok (.ior, 1) := by decide +kernel
theorem dX4_place_30 : decode cX4_place 30 = .ok (.iload 4, 2) := by decide +kernel
theorem dX4_place_32 : decode cX4_place 32 = .ok (.iconst 1, 1) := by decide +kernel
theorem dX4_place_33 : decode cX4_place 33 = .ok (.ishl, 1) := by decide +kernel
theorem dX4_place_34 : decode cX4_place 34 = .ok (.ior, 1) := by decide +kernel
theorem dX4_place_35 : decode cX4_place 35 = .ok (.iload 6, 2) := by decide +kernel
theorem dX4_place_37 : decode cX4_place 37 = .ok (.ifCond .eq 7, 3) := by decide +kernel
theorem dX4_place_40 : decode cX4_place 40 = .ok (.iconst 1, 1) := by decide +kernel
theorem dX4_place_41 : decode cX4_place 41 = .ok (.goto 4, 3) := by decide +kernel
theorem dX4_place_44 : decode cX4_place 44 = .ok (.iconst 0, 1) := by decide +kernel
theorem dX4_place_45 : decode cX4_place 45 = .ok (.ior, 1) := by decide +kernel
theorem dX4_place_46 : decode cX4_place 46 = .ok (.istore 7, 2) := by decide +kernel
theorem dX4_place_48 : decode cX4_place 48 = .ok (.aload_n 0, 1) := by decide +kernel
theorem dX4_place_49 : decode cX4_place 49 = .ok (.getfield 15, 3) := by decide +kernel
theorem dX4_place_52 : decode cX4_place 52 = .ok (.istore 8, 2) := by decide +kernel
theorem dX4_place_54 : decode cX4_place 54 = .ok (.iload 8, 2) := by decide +kernel
theorem dX4_place_56 : decode cX4_place 56 = .ok (.ifCond .le 39, 3) := by decide +kernel
theorem dX4_place_59 : decode cX4_place 59 = .ok (.aload_n 0, 1) := by decide +kernel
theorem dX4_place_60 : decode cX4_place 60 = .ok (.getfield 9, 3) := by decide +kernel
theorem dX4_place_63 : decode cX4_place 63 = .ok (.iload 8, 2) := by decide +kernel
theorem dX4_place_65 : decode cX4_place 65 = .ok (.iconst 1, 1) := by decide +kernel
theorem dX4_place_66 : decode cX4_place 66 = .ok (.isub, 1) := by decide +kernel
theorem dX4_place_67 : decode cX4_place 67 = .ok (.iaload, 1) := by decide +kernel
theorem dX4_place_68 : decode cX4_place 68 = .ok (.iload 7, 2) := by decide +kernel
theorem dX4_place_70 : decode cX4_place 70 = .ok (.if_icmp .le 25, 3) := by decide +kernel
theorem dX4_place_73 : decode cX4_place 73 = .ok (.aload_n 0, 1) := by decide +kernel
theorem dX4_place_74 : decode cX4_place 74 = .ok (.getfield 9, 3) := by decide +kernel
theorem dX4_place_77 : decode cX4_place 77 = .ok (.iload 8, 2) := by decide +kernel
theorem dX4_place_79 : decode cX4_place 79 = .ok (.aload_n 0, 1) := by decide +kernel
theorem dX4_place_80 : decode cX4_place 80 = .ok (.getfield 9, 3) := by decide +kernel
theorem dX4_place_83 : decode cX4_place 83 = .ok (.iload 8, 2) := by decide +kernel
theorem dX4_place_85 : decode cX4_place 85 = .ok (.iconst 1, 1) := by decide +kernel
theorem dX4_place_86 : decode cX4_place 86 = .ok (.isub, 1) := by decide +kernel
theorem dX4_place_87 : decode cX4_place 87 = .ok (.iaload, 1) := by decide +kernel
theorem dX4_place_88 : decode cX4_place 88 = .ok (.iastore, 1) := by decide +kernel
theorem dX4_place_89 : decode cX4_place 89 = .ok (.iinc 8 (-1), 3) := by decide +kernel
theorem dX4_place_92 : decode cX4_place 92 = .ok (.goto (-38), 3) := by decide +kernel
theorem dX4_place_95 : decode cX4_place 95 = .ok (.aload_n 0, 1) := by decide +kernel
theorem dX4_place_96 : decode cX4_place 96 = .ok (.getfield 9, 3) := by decide +kernel
theorem dX4_place_99 : decode cX4_place 99 = .ok (.iload 8, 2) := by decide +kernel
theorem dX4_place_101 : decode cX4_place 101 = .ok (.iload 7, 2) := by decide +kernel
theorem dX4_place_103 : decode cX4_place 103 = .ok (.iastore, 1) := by decide +kernel
theorem dX4_place_104 : decode cX4_place 104 = .ok (.aload_n 0, 1) := by decide +kernel
theorem dX4_place_105 : decode cX4_place 105 = .ok (.dup, 1) := by decide +kernel
theorem dX4_place_106 : decode cX4_place 106 = .ok (.getfield 15, 3) := by decide +kernel
theorem dX4_place_109 : decode cX4_place 109 = .ok (.iconst 1, 1) := by decide +kernel
theorem dX4_place_110 : decode cX4_place 110 = .ok (.iadd, 1) := by decide +kernel
theorem dX4_place_111 : decode cX4_place 111 = .ok (.putfield 15, 3) := by decide +kernel
theorem dX4_place_114 : decode cX4_place 114 = .ok (.return_, 1) := by decide +kernel
theorem dX4_sendAt_0 : decode cX4_sendAt 0 = .ok (.iload_n 1, 1) := by decide +kernel
theorem dX4_sendAt_1 : decode cX4_sendAt 1 = .ok (.ifCond .lt 20, 3) := by decide +kernel
theorem dX4_sendAt_4 : decode cX4_sendAt 4 = .ok (.iload_n 1, 1) := by decide +kernel
theorem dX4_sendAt_5 : decode cX4_sendAt 5 = .ok (.aload_n 0, 1) := by decide +kernel
theorem dX4_sendAt_6 : decode cX4_sendAt 6 = .ok (.getfield 15, 3) := by decide +kernel
theorem dX4_sendAt_9 : decode cX4_sendAt 9 = .ok (.if_icmp .ge 12, 3) := by decide +kernel
theorem dX4_sendAt_12 : decode cX4_sendAt 12 = .ok (.aload_n 0, 1) := by decide +kernel
theorem dX4_sendAt_13 : decode cX4_sendAt 13 = .ok (.getfield 9, 3) := by decide +kernel
theorem dX4_sendAt_16 : decode cX4_sendAt 16 = .ok (.iload_n 1, 1) := by decide +kernel
theorem dX4_sendAt_17 : decode cX4_sendAt 17 = .ok (.iaload, 1) := by decide +kernel
theorem dX4_sendAt_18 : decode cX4_sendAt 18 = .ok (.goto 4, 3) := by decide +kernel
theorem dX4_sendAt_21 : decode cX4_sendAt 21 = .ok (.iconst 0, 1) := by decide +kernel
theorem dX4_sendAt_22 : decode cX4_sendAt 22 = .ok (.ireturn, 1) := by decide +kernel
