theorem dX5_init_0 : decode cX5_init 0 = .ok (.aload_n 0, 1) := by decide +kernel
theorem dX5_init_1 : decode cX5_init 1 = .ok (.invokespecial 3, 3) := by decide +kernel
theorem dX5_init_4 : decode cX5_init 4 = .ok (.aload_n 0, 1) := by decide +kernel
theorem dX5_init_5 : decode cX5_init 5 = .ok (.bipush 8, 2) := by decide +kernel
theorem dX5_init_7 : decode cX5_init 7 = .ok (.newarray .int, 2) := by decide +kernel
theorem dX5_init_9 : decode cX5_init 9 = .ok (.putfield 9, 3) := by decide +kernel
theorem dX5_init_12 : decode cX5_init 12 = .ok (.aload_n 0, 1) := by decide +kernel
theorem dX5_init_13 : decode cX5_init 13 = .ok (.sipush 256, 3) := by decide +kernel
theorem dX5_init_16 : decode cX5_init 16 = .ok (.newarray .int, 2) := by decide +kernel
theorem dX5_init_18 : decode cX5_init 18 = .ok (.putfield 15, 3) := by decide +kernel
theorem dX5_init_21 : decode cX5_init 21 = .ok (.aload_n 0, 1) := by decide +kernel
theorem dX5_init_22 : decode cX5_init 22 = .ok (.sipush 256, 3) := by decide +kernel
theorem dX5_init_25 : decode cX5_init 25 = .ok (.newarray .boolean, 2) := by decide +kernel
theorem dX5_init_27 : decode cX5_init 27 = .ok (.putfield 18, 3) := by decide +kernel
theorem dX5_init_30 : decode cX5_init 30 = .ok (.return_, 1) := by decide +kernel
set_option maxRecDepth 20000 in
theorem ggX5_leastSteps_X3_ranks : GoodIn wsX5_leastSteps wsX3_ranks := goodIn_r _ [8, 9, 44, 45, 46, 47, 48, 49, 50, 51, 52] (by decide +kernel) (by decide +kernel)
set_option maxRecDepth 20000 in
theorem gX5_leastSteps_X3_ranks : GoodIn wsX5_leastSteps (wsV RX5 22 RX3 yX3_ranks wsX3_ranks) := goodIn_app (goodIn_of _ (by decide +kernel)) ggX5_leastSteps_X3_ranks
set_option maxRecDepth 20000 in
theorem ggX5_leastSteps_X5_readLines : GoodIn wsX5_leastSteps wsX5_readLines := goodIn_r _ [14, 1, 15, 16, 17, 18, 7, 19, 9, 20, 21, 22, 23, 24, 25, 39, 40, 41, 42, 43, 44, 45, 46, 47, 48, 49, 50, 51, 52] (by decide +kernel) (by decide +kernel)
set_option maxRecDepth 20000 in
theorem gX5_leastSteps_X5_readLines : GoodIn wsX5_leastSteps (wsV RX5 35 RX5 yX5_readLines wsX5_readLines) := goodIn_app (goodIn_of _ (by decide +kernel)) ggX5_leastSteps_X5_readLines
set_option maxRecDepth 20000 in
theorem ggX5_leastSteps_J7_fill_53178 : GoodIn wsX5_leastSteps wsJ7_fill_53178 := goodIn_r _ [29] (by decide +kernel) (by decide +kernel)
set_option maxRecDepth 20000 in
theorem gX5_leastSteps_J7_fill_53178 : GoodIn wsX5_leastSteps (va_wsS RX5 39 yJ7_fill_53178 wsJ7_fill_53178) := goodIn_app (goodIn_of _ (by decide +kernel)) ggX5_leastSteps_J7_fill_53178
set_option maxRecDepth 20000 in
theorem ggX5_leastSteps_X5_stepFrom : GoodIn wsX5_leastSteps wsX5_stepFrom := goodIn_r _ [33, 2, 34, 1, 15, 3, 35, 36, 37, 13, 38, 39, 40, 41, 42, 43] (by decide +kernel) (by decide +kernel)
set_option maxRecDepth 20000 in
theorem gX5_leastSteps_X5_stepFrom : GoodIn wsX5_leastSteps (wsV RX5 45 RX5 yX5_stepFrom wsX5_stepFrom) := goodIn_app (goodIn_of _ (by decide +kernel)) ggX5_leastSteps_X5_stepFrom
theorem dX5_leastSteps_0 : decode cX5_leastSteps 0 = .ok (.aload_n 0, 1) := by decide +kernel
theorem dX5_leastSteps_1 : decode cX5_leastSteps 1 = .ok (.aload_n 1, 1) := by decide +kernel
theorem dX5_leastSteps_2 : decode cX5_leastSteps 2 = .ok (.invokevirtual 22, 3) := by decide +kernel
theorem dX5_leastSteps_5 : decode cX5_leastSteps 5 = .ok (.putfield 28, 3) := by decide +kernel
theorem dX5_leastSteps_8 : decode cX5_leastSteps 8 = .ok (.aload_n 0, 1) := by decide +kernel
theorem dX5_leastSteps_9 : decode cX5_leastSteps 9 = .ok (.getfield 28, 3) := by decide +kernel
theorem dX5_leastSteps_12 : decode cX5_leastSteps 12 = .ok (.bipush 8, 2) := by decide +kernel
theorem dX5_leastSteps_14 : decode cX5_leastSteps 14 = .ok (.if_icmp .gt 15, 3) := by decide +kernel
theorem dX5_leastSteps_17 : decode cX5_leastSteps 17 = .ok (.iload_n 2, 1) := by decide +kernel
theorem dX5_leastSteps_18 : decode cX5_leastSteps 18 = .ok (.ifCond .lt 11, 3) := by decide +kernel
theorem dX5_leastSteps_21 : decode cX5_leastSteps 21 = .ok (.iload_n 2, 1) := by decide +kernel
theorem dX5_leastSteps_22 : decode cX5_leastSteps 22 = .ok (.aload_n 0, 1) := by decide +kernel
theorem dX5_leastSteps_23 : decode cX5_leastSteps 23 = .ok (.getfield 28, 3) := by decide +kernel
theorem dX5_leastSteps_26 : decode cX5_leastSteps 26 = .ok (.if_icmp .lt 5, 3) := by decide +kernel
theorem dX5_leastSteps_29 : decode cX5_leastSteps 29 = .ok (.iconst (-1), 1) := by decide +kernel
theorem dX5_leastSteps_30 : decode cX5_leastSteps 30 = .ok (.ireturn, 1) := by decide +kernel
theorem dX5_leastSteps_31 : decode cX5_leastSteps 31 = .ok (.aload_n 0, 1) := by decide +kernel
theorem dX5_leastSteps_32 : decode cX5_leastSteps 32 = .ok (.iconst 1, 1) := by decide +kernel
theorem dX5_leastSteps_33 : decode cX5_leastSteps 33 = .ok (.aload_n 0, 1) := by decide +kernel
theorem dX5_leastSteps_34 : decode cX5_leastSteps 34 = .ok (.getfield 28, 3) := by decide +kernel
theorem dX5_leastSteps_37 : decode cX5_leastSteps 37 = .ok (.ishl, 1) := by decide +kernel
theorem dX5_leastSteps_38 : decode cX5_leastSteps 38 = .ok (.iconst 1, 1) := by decide +kernel
theorem dX5_leastSteps_39 : decode cX5_leastSteps 39 = .ok (.isub, 1) := by decide +kernel
theorem dX5_leastSteps_40 : decode cX5_leastSteps 40 = .ok (.putfield 32, 3) := by decide +kernel
theorem dX5_leastSteps_43 : decode cX5_leastSteps 43 = .ok (.aload_n 0, 1) := by decide +kernel
theorem dX5_leastSteps_44 : decode cX5_leastSteps 44 = .ok (.aload_n 1, 1) := by decide +kernel
theorem dX5_leastSteps_45 : decode cX5_leastSteps 45 = .ok (.invokevirtual 35, 3) := by decide +kernel
theorem dX5_leastSteps_48 : decode cX5_leastSteps 48 = .ok (.aload_n 0, 1) := by decide +kernel
theorem dX5_leastSteps_49 : decode cX5_leastSteps 49 = .ok (.getfield 15, 3) := by decide +kernel
theorem dX5_leastSteps_52 : decode cX5_leastSteps 52 = .ok (.iconst (-1), 1) := by decide +kernel
theorem dX5_leastSteps_53 : decode cX5_leastSteps 53 = .ok (.invokestatic 39, 3) := by decide +kernel
theorem dX5_leastSteps_56 : decode cX5_leastSteps 56 = .ok (.aload_n 0, 1) := by decide +kernel
theorem dX5_leastSteps_57 : decode cX5_leastSteps 57 = .ok (.getfield 15, 3) := by decide +kernel
theorem dX5_leastSteps_60 : decode cX5_leastSteps 60 = .ok (.iconst 1, 1) := by decide +kernel
theorem dX5_leastSteps_61 : decode cX5_leastSteps 61 = .ok (.iload_n 2, 1) := by decide +kernel
theorem dX5_leastSteps_62 : decode cX5_leastSteps 62 = .ok (.ishl, 1) := by decide +kernel
theorem dX5_leastSteps_63 : decode cX5_leastSteps 63 = .ok (.iconst 0, 1) := by decide +kernel
theorem dX5_leastSteps_64 : decode cX5_leastSteps 64 = .ok (.iastore, 1) := by decide +kernel
theorem dX5_leastSteps_65 : decode cX5_leastSteps 65 = .ok (.iconst 0, 1) := by decide +kernel
theorem dX5_leastSteps_66 : decode cX5_leastSteps 66 = .ok (.istore_n 3, 1) := by decide +kernel
theorem dX5_leastSteps_67 : decode cX5_leastSteps 67 = .ok (.iload_n 3, 1) := by decide +kernel
theorem dX5_leastSteps_68 : decode cX5_leastSteps 68 = .ok (.aload_n 0, 1) := by decide +kernel
theorem dX5_leastSteps_69 : decode cX5_leastSteps 69 = .ok (.getfield 28, 3) := by decide +kernel
theorem dX5_leastSteps_72 : decode cX5_leastSteps 72 = .ok (.if_icmp .ge 60, 3) := by decide +kernel
theorem dX5_leastSteps_75 : decode cX5_leastSteps 75 = .ok (.aload_n 0, 1) := by decide +kernel
theorem dX5_leastSteps_76 : decode cX5_leastSteps 76 = .ok (.getfield 15, 3) := by decide +kernel
theorem dX5_leastSteps_79 : decode cX5_leastSteps 79 = .ok (.aload_n 0, 1) := by decide +kernel
theorem dX5_leastSteps_80 : decode cX5_leastSteps 80 = .ok (.getfield 32, 3) := by decide +kernel
theorem dX5_leastSteps_83 : decode cX5_leastSteps 83 = .ok (.iaload, 1) := by decide +kernel
theorem dX5_leastSteps_84 : decode cX5_leastSteps 84 = .ok (.iconst (-1), 1) := by decide +kernel
theorem dX5_leastSteps_85 : decode cX5_leastSteps 85 = .ok (.if_icmp .ne 47, 3) := by decide +kernel
theorem dX5_leastSteps_88 : decode cX5_leastSteps 88 = .ok (.iconst 1, 1) := by decide +kernel
theorem dX5_leastSteps_89 : decode cX5_leastSteps 89 = .ok (.istore 4, 2) := by decide +kernel
theorem dX5_leastSteps_91 : decode cX5_leastSteps 91 = .ok (.iload 4, 2) := by decide +kernel
theorem dX5_leastSteps_93 : decode cX5_leastSteps 93 = .ok (.aload_n 0, 1) := by decide +kernel
theorem dX5_leastSteps_94 : decode cX5_leastSteps 94 = .ok (.getfield 32, 3) := by decide +kernel
theorem dX5_leastSteps_97 : decode cX5_leastSteps 97 = .ok (.if_icmp .gt 29, 3) := by decide +kernel
theorem dX5_leastSteps_100 : decode cX5_leastSteps 100 = .ok (.aload_n 0, 1) := by decide +kernel
theorem dX5_leastSteps_101 : decode cX5_leastSteps 101 = .ok (.getfield 15, 3) := by decide +kernel
theorem dX5_leastSteps_104 : decode cX5_leastSteps 104 = .ok (.iload 4, 2) := by decide +kernel
theorem dX5_leastSteps_106 : decode cX5_leastSteps 106 = .ok (.iaload, 1) := by decide +kernel
theorem dX5_leastSteps_107 : decode cX5_leastSteps 107 = .ok (.iload_n 3, 1) := by decide +kernel
theorem dX5_leastSteps_108 : decode cX5_leastSteps 108 = .ok (.if_icmp .ne 12, 3) := by decide +kernel
theorem dX5_leastSteps_111 : decode cX5_leastSteps 111 = .ok (.aload_n 0, 1) := by decide +kernel
theorem dX5_leastSteps_112 : decode cX5_leastSteps 112 = .ok (.iload 4, 2) := by decide +kernel
theorem dX5_leastSteps_114 : decode cX5_leastSteps 114 = .ok (.iload_n 3, 1) := by decide +kernel
theorem dX5_leastSteps_115 : decode cX5_leastSteps 115 = .ok (.iconst 1, 1) := by decide +kernel
theorem dX5_leastSteps_116 : decode cX5_leastSteps 116 = .ok (.iadd, 1) := by decide +kernel
theorem dX5_leastSteps_117 : decode cX5_leastSteps 117 = .ok (.invokevirtual 45, 3) := by decide +kernel
theorem dX5_leastSteps_120 : decode cX5_leastSteps 120 = .ok (.iinc 4 1, 3) := by decide +kernel
theorem dX5_leastSteps_123 : decode cX5_leastSteps 123 = .ok (.goto (-32), 3) := by decide +kernel
theorem dX5_leastSteps_126 : decode cX5_leastSteps 126 = .ok (.iinc 3 1, 3) := by decide +kernel
theorem dX5_leastSteps_129 : decode cX5_leastSteps 129 = .ok (.goto (-62), 3) := by decide +kernel
theorem dX5_leastSteps_132 : decode cX5_leastSteps 132 = .ok (.aload_n 0, 1) := by decide +kernel
theorem dX5_leastSteps_133 : decode cX5_leastSteps 133 = .ok (.getfield 15, 3) := by decide +kernel
theorem dX5_leastSteps_136 : decode cX5_leastSteps 136 = .ok (.aload_n 0, 1) := by decide +kernel
theorem dX5_leastSteps_137 : decode cX5_leastSteps 137 = .ok (.getfield 32, 3) := by decide +kernel
theorem dX5_leastSteps_140 : decode cX5_leastSteps 140 = .ok (.iaload, 1) := by decide +kernel
theorem dX5_leastSteps_141 : decode cX5_leastSteps 141 = .ok (.ireturn, 1) := by decide +kernel
set_option maxRecDepth 20000 in
theorem ggX5_readLines_X3_hostOf : GoodIn wsX5_readLines wsX3_hostOf := goodIn_r _ [7, 8, 9, 20, 21, 22, 23, 24, 25, 26, 27, 28] (by decide +kernel) (by decide +kernel)
set_option maxRecDepth 20000 in
theorem gX5_readLines_X3_hostOf : GoodIn wsX5_readLines (wsV RX5 49 RX3 yX3_hostOf wsX3_hostOf) := goodIn_app (goodIn_of _ (by decide +kernel)) ggX5_readLines_X3_hostOf
set_option maxRecDepth 20000 in
theorem ggX5_readLines_X3_hasLine : GoodIn wsX5_readLines wsX3_hasLine := goodIn_r _ [13, 14, 20, 21, 22, 23, 24, 25, 26, 27, 28] (by decide +kernel) (by decide +kernel)
set_option maxRecDepth 20000 in
theorem gX5_readLines_X3_hasLine : GoodIn wsX5_readLines (wsV RX5 53 RX3 yX3_hasLine wsX3_hasLine) := goodIn_app (goodIn_of _ (by decide +kernel)) ggX5_readLines_X3_hasLine
theorem dX5_readLines_0 : decode cX5_readLines 0 = .ok (.iconst 0, 1) := by decide +kernel
theorem dX5_readLines_1 : decode cX5_readLines 1 = .ok (.istore_n 2, 1) := by decide +kernel
theorem dX5_readLines_2 : decode cX5_readLines 2 = .ok (.iload_n 2, 1) := by decide +kernel
theorem dX5_readLines_3 : decode cX5_readLines 3 = .ok (.aload_n 0, 1) := by decide +kernel
theorem dX5_readLines_4 : decode cX5_readLines 4 = .ok (.getfield 28, 3) := by decide +kernel
theorem dX5_readLines_7 : decode cX5_readLines 7 = .ok (.if_icmp .ge 61, 3) := by decide +kernel
theorem dX5_readLines_10 : decode cX5_readLines 10 = .ok (.aload_n 0, 1) := by decide +kernel
theorem dX5_readLines_11 : decode cX5_readLines 11 = .ok (.getfield 9, 3) := by decide +kernel
theorem dX5_readLines_14 : decode cX5_readLines 14 = .ok (.iload_n 2, 1) := by decide +kernel
theorem dX5_readLines_15 : decode cX5_readLines 15 = .ok (.iconst 0, 1) := by decide +kernel
theorem dX5_readLines_16 : decode cX5_readLines 16 = .ok (.iastore, 1) := by decide +kernel
theorem dX5_readLines_17 : decode cX5_readLines 17 = .ok (.iconst 0, 1) := by decide +kernel
theorem dX5_readLines_18 : decode cX5_readLines 18 = .ok (.istore_n 3, 1) := by decide +kernel
theorem dX5_readLines_19 : decode cX5_readLines 19 = .ok (.iload_n 3, 1) := by decide +kernel
theorem dX5_readLines_20 : decode cX5_readLines 20 = .ok (.aload_n 0, 1) := by decide +kernel
theorem dX5_readLines_21 : decode cX5_readLines 21 = .ok (.getfield 28, 3) := by decide +kernel
theorem dX5_readLines_24 : decode cX5_readLines 24 = .ok (.if_icmp .ge 38, 3) := by decide +kernel
theorem dX5_readLines_27 : decode cX5_readLines 27 = .ok (.aload_n 1, 1) := by decide +kernel
theorem dX5_readLines_28 : decode cX5_readLines 28 = .ok (.aload_n 1, 1) := by decide +kernel
theorem dX5_readLines_29 : decode cX5_readLines 29 = .ok (.iload_n 2, 1) := by decide +kernel
theorem dX5_readLines_30 : decode cX5_readLines 30 = .ok (.invokevirtual 49, 3) := by decide +kernel
theorem dX5_readLines_33 : decode cX5_readLines 33 = .ok (.aload_n 1, 1) := by decide +kernel
theorem dX5_readLines_34 : decode cX5_readLines 34 = .ok (.iload_n 3, 1) := by decide +kernel
theorem dX5_readLines_35 : decode cX5_readLines 35 = .ok (.invokevirtual 49, 3) := by decide +kernel
theorem dX5_readLines_38 : decode cX5_readLines 38 = .ok (.invokevirtual 53, 3) := by decide +kernel
theorem dX5_readLines_41 : decode cX5_readLines 41 = .ok (.ifCond .eq 15, 3) := by decide +kernel
theorem dX5_readLines_44 : decode cX5_readLines 44 = .ok (.aload_n 0, 1) := by decide +kernel
theorem dX5_readLines_45 : decode cX5_readLines 45 = .ok (.getfield 9, 3) := by decide +kernel
theorem dX5_readLines_48 : decode cX5_readLines 48 = .ok (.iload_n 2, 1) := by decide +kernel
theorem dX5_readLines_49 : decode cX5_readLines 49 = .ok (.dup2, 1) := by decide +kernel
theorem dX5_readLines_50 : decode cX5_readLines 50 = .ok (.iaload, 1) := by decide +kernel
theorem dX5_readLines_51 : decode cX5_readLines 51 = .ok (.iconst 1, 1) := by decide +kernel
theorem dX5_readLines_52 : decode cX5_readLines 52 = .ok (.iload_n 3, 1) := by decide +kernel
theorem dX5_readLines_53 : decode cX5_readLines 53 = .ok (.ishl, 1) := by decide +kernel
theorem dX5_readLines_54 : decode cX5_readLines 54 = .ok (.ior, 1) := by decide +kernel
theorem dX5_readLines_55 : decode cX5_readLines 55 = .ok (.iastore, 1) := by decide +kernel
theorem dX5_readLines_56 : decode cX5_readLines 56 = .ok (.iinc 3 1, 3) := by decide +kernel
theorem dX5_readLines_59 : decode cX5_readLines 59 = .ok (.goto (-40), 3) := by decide +kernel
theorem dX5_readLines_62 : decode cX5_readLines 62 = .ok (.iinc 2 1, 3) := by decide +kernel
theorem dX5_readLines_65 : decode cX5_readLines 65 = .ok (.goto (-63), 3) := by decide +kernel
theorem dX5_readLines_68 : decode cX5_readLines 68 = .ok (.return_, 1) := by decide +kernel
set_option maxRecDepth 20000 in
theorem ggX5_stepFrom_X5_letSend : GoodIn wsX5_stepFrom wsX5_letSend := goodIn_r _ [10, 1, 4, 2, 3, 11, 12, 13, 14, 15] (by decide +kernel) (by decide +kernel)
set_option maxRecDepth 20000 in
theorem gX5_stepFrom_X5_letSend : GoodIn wsX5_stepFrom (wsV RX5 57 RX5 yX5_letSend wsX5_letSend) := goodIn_app (goodIn_of _ (by decide +kernel)) ggX5_stepFrom_X5_letSend
theorem dX5_stepFrom_0 : decode cX5_stepFrom 0 = .ok (.iload_n 1, 1) := by decide +kernel
theorem dX5_stepFrom_1 : decode cX5_stepFrom 1 = .ok (.istore_n 3, 1) := by decide +kernel
theorem dX5_stepFrom_2 : decode cX5_stepFrom 2 = .ok (.iload_n 3, 1) := by decide +kernel
theorem dX5_stepFrom_3 : decode cX5_stepFrom 3 = .ok (.aload_n 0, 1) := by decide +kernel
theorem dX5_stepFrom_4 : decode cX5_stepFrom 4 = .ok (.getfield 32, 3) := by decide +kernel
theorem dX5_stepFrom_7 : decode cX5_stepFrom 7 = .ok (.if_icmp .gt 25, 3) := by decide +kernel
theorem dX5_stepFrom_10 : decode cX5_stepFrom 10 = .ok (.aload_n 0, 1) := by decide +kernel
theorem dX5_stepFrom_11 : decode cX5_stepFrom 11 = .ok (.getfield 18, 3) := by decide +kernel
theorem dX5_stepFrom_14 : decode cX5_stepFrom 14 = .ok (.iload_n 3, 1) := by decide +kernel
theorem dX5_stepFrom_15 : decode cX5_stepFrom 15 = .ok (.iload_n 3, 1) := by decide +kernel
theorem dX5_stepFrom_16 : decode cX5_stepFrom 16 = .ok (.iload_n 1, 1) := by decide +kernel
theorem dX5_stepFrom_17 : decode cX5_stepFrom 17 = .ok (.if_icmp .ne 7, 3) := by decide +kernel
theorem dX5_stepFrom_20 : decode cX5_stepFrom 20 = .ok (.iconst 1, 1) := by decide +kernel
theorem dX5_stepFrom_21 : decode cX5_stepFrom 21 = .ok (.goto 4, 3) := by decide +kernel
theorem dX5_stepFrom_24 : decode cX5_stepFrom 24 = .ok (.iconst 0, 1) := by decide +kernel
theorem dX5_stepFrom_25 : decode cX5_stepFrom 25 = .ok (.bastore, 1) := by decide +kernel
theorem dX5_stepFrom_26 : decode cX5_stepFrom 26 = .ok (.iinc 3 1, 3) := by decide +kernel
theorem dX5_stepFrom_29 : decode cX5_stepFrom 29 = .ok (.goto (-27), 3) := by decide +kernel
theorem dX5_stepFrom_32 : decode cX5_stepFrom 32 = .ok (.iconst 0, 1) := by decide +kernel
theorem dX5_stepFrom_33 : decode cX5_stepFrom 33 = .ok (.istore_n 3, 1) := by decide +kernel
theorem dX5_stepFrom_34 : decode cX5_stepFrom 34 = .ok (.iload_n 3, 1) := by decide +kernel
theorem dX5_stepFrom_35 : decode cX5_stepFrom 35 = .ok (.aload_n 0, 1) := by decide +kernel
theorem dX5_stepFrom_36 : decode cX5_stepFrom 36 = .ok (.getfield 28, 3) := by decide +kernel
theorem dX5_stepFrom_39 : decode cX5_stepFrom 39 = .ok (.if_icmp .ge 36, 3) := by decide +kernel
theorem dX5_stepFrom_42 : decode cX5_stepFrom 42 = .ok (.iload_n 1, 1) := by decide +kernel
theorem dX5_stepFrom_43 : decode cX5_stepFrom 43 = .ok (.iload_n 3, 1) := by decide +kernel
theorem dX5_stepFrom_44 : decode cX5_stepFrom 44 = .ok (.ishr, 1) := by decide +kernel
theorem dX5_stepFrom_45 : decode cX5_stepFrom 45 = .ok (.iconst 1, 1) := by decide +kernel
theorem dX5_stepFrom_46 : decode cX5_stepFrom 46 = .ok (.iand, 1) := by decide +kernel
theorem dX5_stepFrom_47 : decode cX5_stepFrom 47 = .ok (.ifCond .eq 22, 3) := by decide +kernel
theorem dX5_stepFrom_50 : decode cX5_stepFrom 50 = .ok (.aload_n 0, 1) := by decide +kernel
theorem dX5_stepFrom_51 : decode cX5_stepFrom 51 = .ok (.getfield 9, 3) := by decide +kernel
theorem dX5_stepFrom_54 : decode cX5_stepFrom 54 = .ok (.iload_n 3, 1) := by decide +kernel
theorem dX5_stepFrom_55 : decode cX5_stepFrom 55 = .ok (.iaload, 1) := by decide +kernel
theorem dX5_stepFrom_56 : decode cX5_stepFrom 56 = .ok (.iload_n 1, 1) := by decide +kernel
theorem dX5_stepFrom_57 : decode cX5_stepFrom 57 = .ok (.iconst (-1), 1) := by decide +kernel
theorem dX5_stepFrom_58 : decode cX5_stepFrom 58 = .ok (.ixor, 1) := by decide +kernel
theorem dX5_stepFrom_59 : decode cX5_stepFrom 59 = .ok (.iand, 1) := by decide +kernel
theorem dX5_stepFrom_60 : decode cX5_stepFrom 60 = .ok (.ifCond .eq 9, 3) := by decide +kernel
theorem dX5_stepFrom_63 : decode cX5_stepFrom 63 = .ok (.aload_n 0, 1) := by decide +kernel
theorem dX5_stepFrom_64 : decode cX5_stepFrom 64 = .ok (.iload_n 3, 1) := by decide +kernel
theorem dX5_stepFrom_65 : decode cX5_stepFrom 65 = .ok (.iload_n 1, 1) := by decide +kernel
theorem dX5_stepFrom_66 : decode cX5_stepFrom 66 = .ok (.invokevirtual 57, 3) := by decide +kernel
theorem dX5_stepFrom_69 : decode cX5_stepFrom 69 = .ok (.iinc 3 1, 3) := by decide +kernel
theorem dX5_stepFrom_72 : decode cX5_stepFrom 72 = .ok (.goto (-38), 3) := by decide +kernel
theorem dX5_stepFrom_75 : decode cX5_stepFrom 75 = .ok (.iload_n 1, 1) := by decide +kernel
theorem dX5_stepFrom_76 : decode cX5_stepFrom 76 = .ok (.istore_n 3, 1) := by decide +kernel
theorem dX5_stepFrom_77 : decode cX5_stepFrom 77 = .ok (.iload_n 3, 1) := by decide +kernel
theorem dX5_stepFrom_78 : decode cX5_stepFrom 78 = .ok (.aload_n 0, 1) := by decide +kernel
theorem dX5_stepFrom_79 : decode cX5_stepFrom 79 = .ok (.getfield 32, 3) := by decide +kernel
theorem dX5_stepFrom_82 : decode cX5_stepFrom 82 = .ok (.if_icmp .gt 35, 3) := by decide +kernel
theorem dX5_stepFrom_85 : decode cX5_stepFrom 85 = .ok (.aload_n 0, 1) := by decide +kernel
theorem dX5_stepFrom_86 : decode cX5_stepFrom 86 = .ok (.getfield 18, 3) := by decide +kernel
theorem dX5_stepFrom_89 : decode cX5_stepFrom 89 = .ok (.iload_n 3, 1) := by decide +kernel
theorem dX5_stepFrom_90 : decode cX5_stepFrom 90 = .ok (.baload, 1) := by decide +kernel
theorem dX5_stepFrom_91 : decode cX5_stepFrom 91 = .ok (.ifCond .eq 20, 3) := by decide +kernel
theorem dX5_stepFrom_94 : decode cX5_stepFrom 94 = .ok (.aload_n 0, 1) := by decide +kernel
theorem dX5_stepFrom_95 : decode cX5_stepFrom 95 = .ok (.getfield 15, 3) := by decide +kernel
theorem dX5_stepFrom_98 : decode cX5_stepFrom 98 = .ok (.iload_n 3, 1) := by decide +kernel
theorem dX5_stepFrom_99 : decode cX5_stepFrom 99 = .ok (.iaload, 1) := by decide +kernel
theorem dX5_stepFrom_100 : decode cX5_stepFrom 100 = .ok (.iconst (-1), 1) := by decide +kernel
theorem dX5_stepFrom_101 : decode cX5_stepFrom 101 = .ok (.if_icmp .ne 10, 3) := by decide +kernel
theorem dX5_stepFrom_104 : decode cX5_stepFrom 104 = .ok (.aload_n 0, 1) := by decide +kernel
theorem dX5_stepFrom_105 : decode cX5_stepFrom 105 = .ok (.getfield 15, 3) := by decide +kernel
theorem dX5_stepFrom_108 : decode cX5_stepFrom 108 = .ok (.iload_n 3, 1) := by decide +kernel
theorem dX5_stepFrom_109 : decode cX5_stepFrom 109 = .ok (.iload_n 2, 1) := by decide +kernel
theorem dX5_stepFrom_110 : decode cX5_stepFrom 110 = .ok (.iastore, 1) := by decide +kernel
theorem dX5_stepFrom_111 : decode cX5_stepFrom 111 = .ok (.iinc 3 1, 3) := by decide +kernel
theorem dX5_stepFrom_114 : decode cX5_stepFrom 114 = .ok (.goto (-37), 3) := by decide +kernel
theorem dX5_stepFrom_117 : decode cX5_stepFrom 117 = .ok (.return_, 1) := by decide +kernel
theorem dX5_letSend_0 : decode cX5_letSend 0 = .ok (.aload_n 0, 1) := by decide +kernel
theorem dX5_letSend_1 : decode cX5_letSend 1 = .ok (.getfield 32, 3) := by decide +kernel
theorem dX5_letSend_4 : decode cX5_letSend 4 = .ok (.istore_n 3, 1) := by decide +kernel
theorem dX5_letSend_5 : decode cX5_letSend 5 = .ok (.iload_n 3, 1) := by decide +kernel
theorem dX5_letSend_6 : decode cX5_letSend 6 = .ok (.iload_n 2, 1) := by decide +kernel
theorem dX5_letSend_7 : decode cX5_letSend 7 = .ok (.if_icmp .lt 85, 3) := by decide +kernel
theorem dX5_letSend_10 : decode cX5_letSend 10 = .ok (.aload_n 0, 1) := by decide +kernel
theorem dX5_letSend_11 : decode cX5_letSend 11 = .ok (.getfield 9, 3) := by decide +kernel
theorem dX5_letSend_14 : decode cX5_letSend 14 = .ok (.iload_n 1, 1) := by decide +kernel
theorem dX5_letSend_15 : decode cX5_letSend 15 = .ok (.iaload, 1) := by decide +kernel
theorem dX5_letSend_16 : decode cX5_letSend 16 = .ok (.iload_n 3, 1) := by decide +kernel
theorem dX5_letSend_17 : decode cX5_letSend 17 = .ok (.iconst (-1), 1) := by decide +kernel
theorem dX5_letSend_18 : decode cX5_letSend 18 = .ok (.ixor, 1) := by decide +kernel
theorem dX5_letSend_19 : decode cX5_letSend 19 = .ok (.iand, 1) := by decide +kernel
theorem dX5_letSend_20 : decode cX5_letSend 20 = .ok (.istore 4, 2) := by decide +kernel
theorem dX5_letSend_22 : decode cX5_letSend 22 = .ok (.aload_n 0, 1) := by decide +kernel
theorem dX5_letSend_23 : decode cX5_letSend 23 = .ok (.getfield 18, 3) := by decide +kernel
theorem dX5_letSend_26 : decode cX5_letSend 26 = .ok (.iload_n 3, 1) := by decide +kernel
theorem dX5_letSend_27 : decode cX5_letSend 27 = .ok (.baload, 1) := by decide +kernel
theorem dX5_letSend_28 : decode cX5_letSend 28 = .ok (.ifCond .eq 58, 3) := by decide +kernel
theorem dX5_letSend_31 : decode cX5_letSend 31 = .ok (.iload 4, 2) := by decide +kernel
theorem dX5_letSend_33 : decode cX5_letSend 33 = .ok (.ifCond .ne 6, 3) := by decide +kernel
theorem dX5_letSend_36 : decode cX5_letSend 36 = .ok (.goto 50, 3) := by decide +kernel
theorem dX5_letSend_39 : decode cX5_letSend 39 = .ok (.aload_n 0, 1) := by decide +kernel
theorem dX5_letSend_40 : decode cX5_letSend 40 = .ok (.getfield 18, 3) := by decide +kernel
theorem dX5_letSend_43 : decode cX5_letSend 43 = .ok (.iload_n 3, 1) := by decide +kernel
theorem dX5_letSend_44 : decode cX5_letSend 44 = .ok (.iconst 0, 1) := by decide +kernel
theorem dX5_letSend_45 : decode cX5_letSend 45 = .ok (.bastore, 1) := by decide +kernel
theorem dX5_letSend_46 : decode cX5_letSend 46 = .ok (.iconst 0, 1) := by decide +kernel
theorem dX5_letSend_47 : decode cX5_letSend 47 = .ok (.istore 5, 2) := by decide +kernel
theorem dX5_letSend_49 : decode cX5_letSend 49 = .ok (.iload 5, 2) := by decide +kernel
theorem dX5_letSend_51 : decode cX5_letSend 51 = .ok (.aload_n 0, 1) := by decide +kernel
theorem dX5_letSend_52 : decode cX5_letSend 52 = .ok (.getfield 28, 3) := by decide +kernel
theorem dX5_letSend_55 : decode cX5_letSend 55 = .ok (.if_icmp .ge 31, 3) := by decide +kernel
theorem dX5_letSend_58 : decode cX5_letSend 58 = .ok (.iload 4, 2) := by decide +kernel
theorem dX5_letSend_60 : decode cX5_letSend 60 = .ok (.iload 5, 2) := by decide +kernel
theorem dX5_letSend_62 : decode cX5_letSend 62 = .ok (.ishr, 1) := by decide +kernel
theorem dX5_letSend_63 : decode cX5_letSend 63 = .ok (.iconst 1, 1) := by decide +kernel
theorem dX5_letSend_64 : decode cX5_letSend 64 = .ok (.iand, 1) := by decide +kernel
theorem dX5_letSend_65 : decode cX5_letSend 65 = .ok (.ifCond .eq 15, 3) := by decide +kernel
theorem dX5_letSend_68 : decode cX5_letSend 68 = .ok (.aload_n 0, 1) := by decide +kernel
theorem dX5_letSend_69 : decode cX5_letSend 69 = .ok (.getfield 18, 3) := by decide +kernel
theorem dX5_letSend_72 : decode cX5_letSend 72 = .ok (.iload_n 3, 1) := by decide +kernel
theorem dX5_letSend_73 : decode cX5_letSend 73 = .ok (.iconst 1, 1) := by decide +kernel
theorem dX5_letSend_74 : decode cX5_letSend 74 = .ok (.iload 5, 2) := by decide +kernel
theorem dX5_letSend_76 : decode cX5_letSend 76 = .ok (.ishl, 1) := by decide +kernel
theorem dX5_letSend_77 : decode cX5_letSend 77 = .ok (.ior, 1) := by decide +kernel
theorem dX5_letSend_78 : decode cX5_letSend 78 = .ok (.iconst 1, 1) := by decide +kernel
theorem dX5_letSend_79 : decode cX5_letSend 79 = .ok (.bastore, 1) := by decide +kernel
theorem dX5_letSend_80 : decode cX5_letSend 80 = .ok (.iinc 5 1, 3) := by decide +kernel
theorem dX5_letSend_83 : decode cX5_letSend 83 = .ok (.goto (-34), 3) := by decide +kernel
theorem dX5_letSend_86 : decode cX5_letSend 86 = .ok (.iinc 3 (-1), 3) := by decide +kernel
theorem dX5_letSend_89 : decode cX5_letSend 89 = .ok (.goto (-84), 3) := by decide +kernel
theorem dX5_letSend_92 : decode cX5_letSend 92 = .ok (.return_, 1) := by decide +kernel
set_option maxRecDepth 20000 in
theorem ggX6_init_X1_init : GoodIn wsX6_init wsX1_init := goodIn_r _ [8, 9, 10, 11] (by decide +kernel) (by decide +kernel)
set_option maxRecDepth 20000 in
theorem gX6_init_X1_init_n5 : GoodIn wsX6_init (wsX1_init) := ggX6_init_X1_init
theorem dX6_init_0 : decode cX6_init 0 = .ok (.aload_n 0, 1) := by decide +kernel
theorem dX6_init_1 : decode cX6_init 1 = .ok (.invokespecial 5, 3) := by decide +kernel
theorem dX6_init_4 : decode cX6_init 4 = .ok (.aload_n 0, 1) := by decide +kernel
theorem dX6_init_5 : decode cX6_init 5 = .ok (.sipush 256, 3) := by decide +kernel
theorem dX6_init_8 : decode cX6_init 8 = .ok (.newarray .long, 2) := by decide +kernel
theorem dX6_init_10 : decode cX6_init 10 = .ok (.putfield 11, 3) := by decide +kernel
theorem dX6_init_13 : decode cX6_init 13 = .ok (.aload_n 0, 1) := by decide +kernel
theorem dX6_init_14 : decode cX6_init 14 = .ok (.sipush 256, 3) := by decide +kernel
theorem dX6_init_17 : decode cX6_init 17 = .ok (.newarray .long, 2) := by decide +kernel
theorem dX6_init_19 : decode cX6_init 19 = .ok (.putfield 15, 3) := by decide +kernel
theorem dX6_init_22 : decode cX6_init 22 = .ok (.aload_n 0, 1) := by decide +kernel
theorem dX6_init_23 : decode cX6_init 23 = .ok (.sipush 256, 3) := by decide +kernel
theorem dX6_init_26 : decode cX6_init 26 = .ok (.newarray .long, 2) := by decide +kernel
theorem dX6_init_28 : decode cX6_init 28 = .ok (.putfield 18, 3) := by decide +kernel
theorem dX6_init_31 : decode cX6_init 31 = .ok (.aload_n 0, 1) := by decide +kernel
theorem dX6_init_32 : decode cX6_init 32 = .ok (.sipush 256, 3) := by decide +kernel
theorem dX6_init_35 : decode cX6_init 35 = .ok (.newarray .long, 2) := by decide +kernel
theorem dX6_init_37 : decode cX6_init 37 = .ok (.putfield 21, 3) := by decide +kernel
theorem dX6_init_40 : decode cX6_init 40 = .ok (.return_, 1) := by decide +kernel
set_option maxRecDepth 20000 in
theorem ggX6_firstWrong_X3_size : GoodIn wsX6_firstWrong wsX3_size := goodIn_r _ [9, 10, 160, 161, 162, 163, 164, 165, 166, 167, 168] (by decide +kernel) (by decide +kernel)
set_option maxRecDepth 20000 in
theorem gX6_firstWrong_X3_size : GoodIn wsX6_firstWrong (wsV RX6 24 RX3 yX3_size wsX3_size) := goodIn_app (goodIn_of _ (by decide +kernel)) ggX6_firstWrong_X3_size
set_option maxRecDepth 20000 in
theorem ggX6_firstWrong_X6_begin : GoodIn wsX6_firstWrong wsX6_begin := goodIn_r _ [15, 16, 17, 18, 19, 20, 21, 14, 22, 169, 170, 171, 172, 173] (by decide +kernel) (by decide +kernel)
set_option maxRecDepth 20000 in
theorem gX6_firstWrong_X6_begin : GoodIn wsX6_firstWrong (wsV RX6 30 RX6 yX6_begin wsX6_begin) := goodIn_app (goodIn_of _ (by decide +kernel)) ggX6_firstWrong_X6_begin
set_option maxRecDepth 20000 in
theorem ggX6_firstWrong_X1_follow : GoodIn wsX6_firstWrong wsX1_follow := goodIn_r _ [28, 29, 30, 31, 32, 33, 34, 35, 36, 37, 38, 39, 40, 41, 42, 43, 44, 45, 46, 47, 48, 49, 50, 51, 52, 53, 54, 55, 56, 57, 58, 59, 60, 61, 62, 63, 64, 65, 66, 67, 68, 69, 70, 71, 72, 73, 74, 75, 76, 77, 78, 14, 79, 80, 17, 81, 18, 82, 83, 84, 85, 86, 87, 88, 89, 90, 91, 92, 93, 27, 94, 95, 96, 97, 98, 99, 100, 101, 102, 103, 104, 105, 106, 107, 108, 109, 110, 111, 112, 113, 114, 115, 174, 175, 176, 177, 169, 170, 171, 172, 173] (by decide +kernel) (by decide +kernel)
set_option maxRecDepth 20000 in
theorem gX6_firstWrong_X1_follow_u34X6 : GoodIn wsX6_firstWrong (va_wsU RX6 34 RX6 "SumsToAll$Follower" ⟨"SumsToAll$Signs", "follow", "(LSumsToAll$Plan;)V"⟩ yX1_follow wsX1_follow) := goodIn_app (goodIn_of _ (by decide +kernel)) ggX6_firstWrong_X1_follow
set_option maxRecDepth 20000 in
theorem ggX6_firstWrong_X6_firstWrongInGroup : GoodIn wsX6_firstWrong wsX6_firstWrongInGroup := goodIn_r _ [119, 18, 17, 120, 53, 121, 122, 123, 124, 8, 125, 126, 127, 128, 129, 130, 10, 131, 132, 14, 133, 134, 135, 136, 137, 138, 139, 140, 141, 142, 143, 144, 19, 20, 21, 22, 16, 52, 54, 145, 146, 147, 148, 149, 150, 151, 152, 153, 154, 155, 156, 157, 158, 159, 169, 170, 171, 172, 173, 160, 161, 162, 163, 164, 165, 166, 167, 168] (by decide +kernel) (by decide +kernel)
set_option maxRecDepth 20000 in
theorem gX6_firstWrong_X6_firstWrongInGroup : GoodIn wsX6_firstWrong (wsV RX6 38 RX6 yX6_firstWrongInGroup wsX6_firstWrongInGroup) := goodIn_app (goodIn_of _ (by decide +kernel)) ggX6_firstWrong_X6_firstWrongInGroup
theorem dX6_firstWrong_0 : decode cX6_firstWrong 0 = .ok (.sipush 256, 3) := by decide +kernel
theorem dX6_firstWrong_3 : decode cX6_firstWrong 3 = .ok (.istore 5, 2) := by decide +kernel
theorem dX6_firstWrong_5 : decode cX6_firstWrong 5 = .ok (.iconst 0, 1) := by decide +kernel
theorem dX6_firstWrong_6 : decode cX6_firstWrong 6 = .ok (.istore 6, 2) := by decide +kernel
theorem dX6_firstWrong_8 : decode cX6_firstWrong 8 = .ok (.iload 6, 2) := by decide +kernel
theorem dX6_firstWrong_10 : decode cX6_firstWrong 10 = .ok (.iconst 4, 1) := by decide +kernel
theorem dX6_firstWrong_11 : decode cX6_firstWrong 11 = .ok (.imul, 1) := by decide +kernel
theorem dX6_firstWrong_12 : decode cX6_firstWrong 12 = .ok (.aload_n 2, 1) := by decide +kernel
theorem dX6_firstWrong_13 : decode cX6_firstWrong 13 = .ok (.invokevirtual 24, 3) := by decide +kernel
theorem dX6_firstWrong_16 : decode cX6_firstWrong 16 = .ok (.if_icmp .ge 35, 3) := by decide +kernel
theorem dX6_firstWrong_19 : decode cX6_firstWrong 19 = .ok (.aload_n 0, 1) := by decide +kernel
theorem dX6_firstWrong_20 : decode cX6_firstWrong 20 = .ok (.iload 6, 2) := by decide +kernel
theorem dX6_firstWrong_22 : decode cX6_firstWrong 22 = .ok (.invokevirtual 30, 3) := by decide +kernel
theorem dX6_firstWrong_25 : decode cX6_firstWrong 25 = .ok (.aload_n 0, 1) := by decide +kernel
theorem dX6_firstWrong_26 : decode cX6_firstWrong 26 = .ok (.aload_n 1, 1) := by decide +kernel
theorem dX6_firstWrong_27 : decode cX6_firstWrong 27 = .ok (.invokevirtual 34, 3) := by decide +kernel
theorem dX6_firstWrong_30 : decode cX6_firstWrong 30 = .ok (.iload 5, 2) := by decide +kernel
theorem dX6_firstWrong_32 : decode cX6_firstWrong 32 = .ok (.aload_n 0, 1) := by decide +kernel
theorem dX6_firstWrong_33 : decode cX6_firstWrong 33 = .ok (.aload_n 2, 1) := by decide +kernel
theorem dX6_firstWrong_34 : decode cX6_firstWrong 34 = .ok (.iload_n 3, 1) := by decide +kernel
theorem dX6_firstWrong_35 : decode cX6_firstWrong 35 = .ok (.iload 4, 2) := by decide +kernel
theorem dX6_firstWrong_37 : decode cX6_firstWrong 37 = .ok (.invokevirtual 38, 3) := by decide +kernel
theorem dX6_firstWrong_40 : decode cX6_firstWrong 40 = .ok (.invokestatic 42, 3) := by decide +kernel
theorem dX6_firstWrong_43 : decode cX6_firstWrong 43 = .ok (.istore 5, 2) := by decide +kernel
theorem dX6_firstWrong_45 : decode cX6_firstWrong 45 = .ok (.iinc 6 1, 3) := by decide +kernel
theorem dX6_firstWrong_48 : decode cX6_firstWrong 48 = .ok (.goto (-40), 3) := by decide +kernel
theorem dX6_firstWrong_51 : decode cX6_firstWrong 51 = .ok (.iload 5, 2) := by decide +kernel
theorem dX6_firstWrong_53 : decode cX6_firstWrong 53 = .ok (.ireturn, 1) := by decide +kernel
set_option maxRecDepth 20000 in
theorem ggX6_begin_X6_signOf : GoodIn wsX6_begin wsX6_signOf := goodIn_r _ [8, 1, 9, 10, 11, 12, 13] (by decide +kernel) (by decide +kernel)
set_option maxRecDepth 20000 in
theorem gX6_begin_X6_signOf : GoodIn wsX6_begin (wsV RX6 52 RX6 yX6_signOf wsX6_signOf) := goodIn_app (goodIn_of _ (by decide +kernel)) ggX6_begin_X6_signOf
theorem dX6_begin_0 : decode cX6_begin 0 = .ok (.aload_n 0, 1) := by decide +kernel
theorem dX6_begin_1 : decode cX6_begin 1 = .ok (.iload_n 1, 1) := by decide +kernel
theorem dX6_begin_2 : decode cX6_begin 2 = .ok (.putfield 48, 3) := by decide +kernel
theorem dX6_begin_5 : decode cX6_begin 5 = .ok (.iconst 0, 1) := by decide +kernel
theorem dX6_begin_6 : decode cX6_begin 6 = .ok (.istore_n 2, 1) := by decide +kernel
theorem dX6_begin_7 : decode cX6_begin 7 = .ok (.iload_n 2, 1) := by decide +kernel
theorem dX6_begin_8 : decode cX6_begin 8 = .ok (.sipush 256, 3) := by decide +kernel
theorem dX6_begin_11 : decode cX6_begin 11 = .ok (.if_icmp .ge 27, 3) := by decide +kernel
theorem dX6_begin_14 : decode cX6_begin 14 = .ok (.aload_n 0, 1) := by decide +kernel
theorem dX6_begin_15 : decode cX6_begin 15 = .ok (.getfield 11, 3) := by decide +kernel
theorem dX6_begin_18 : decode cX6_begin 18 = .ok (.iload_n 2, 1) := by decide +kernel
theorem dX6_begin_19 : decode cX6_begin 19 = .ok (.aload_n 0, 1) := by decide +kernel
theorem dX6_begin_20 : decode cX6_begin 20 = .ok (.iload_n 2, 1) := by decide +kernel
theorem dX6_begin_21 : decode cX6_begin 21 = .ok (.invokevirtual 52, 3) := by decide +kernel
theorem dX6_begin_24 : decode cX6_begin 24 = .ok (.lastore, 1) := by decide +kernel
theorem dX6_begin_25 : decode cX6_begin 25 = .ok (.aload_n 0, 1) := by decide +kernel
theorem dX6_begin_26 : decode cX6_begin 26 = .ok (.getfield 15, 3) := by decide +kernel
theorem dX6_begin_29 : decode cX6_begin 29 = .ok (.iload_n 2, 1) := by decide +kernel
theorem dX6_begin_30 : decode cX6_begin 30 = .ok (.lconst 0, 1) := by decide +kernel
theorem dX6_begin_31 : decode cX6_begin 31 = .ok (.lastore, 1) := by decide +kernel
theorem dX6_begin_32 : decode cX6_begin 32 = .ok (.iinc 2 1, 3) := by decide +kernel
theorem dX6_begin_35 : decode cX6_begin 35 = .ok (.goto (-28), 3) := by decide +kernel
theorem dX6_begin_38 : decode cX6_begin 38 = .ok (.return_, 1) := by decide +kernel
set_option maxRecDepth 20000 in
theorem ggX6_firstWrongInGroup_X8_hostOfCell : GoodIn wsX6_firstWrongInGroup wsX8_hostOfCell := goodIn_r _ [5] (by decide +kernel) (by decide +kernel)
set_option maxRecDepth 20000 in
theorem gX6_firstWrongInGroup_X8_hostOfCell_n56 : GoodIn wsX6_firstWrongInGroup (wsX8_hostOfCell) := ggX6_firstWrongInGroup_X8_hostOfCell
set_option maxRecDepth 20000 in
theorem ggX6_firstWrongInGroup_X3_isLive : GoodIn wsX6_firstWrongInGroup wsX3_isLive := goodIn_r _ [10, 11, 12, 13, 14, 9, 15, 16, 59, 60, 61, 62, 63, 64, 65, 66, 67] (by decide +kernel) (by decide +kernel)
set_option maxRecDepth 20000 in
theorem gX6_firstWrongInGroup_X3_isLive : GoodIn wsX6_firstWrongInGroup (wsV RX6 60 RX3 yX3_isLive wsX3_isLive) := goodIn_app (goodIn_of _ (by decide +kernel)) ggX6_firstWrongInGroup_X3_isLive
set_option maxRecDepth 20000 in
theorem ggX6_firstWrongInGroup_X6_isFree : GoodIn wsX6_firstWrongInGroup wsX6_isFree := goodIn_r _ [20, 3, 4, 5, 21, 22, 23, 24, 25, 9, 26, 27, 59, 60, 61, 62, 63, 64, 65, 66, 67] (by decide +kernel) (by decide +kernel)
set_option maxRecDepth 20000 in
theorem gX6_firstWrongInGroup_X6_isFree : GoodIn wsX6_firstWrongInGroup (va_wsS RX6 64 yX6_isFree wsX6_isFree) := goodIn_app (goodIn_of _ (by decide +kernel)) ggX6_firstWrongInGroup_X6_isFree
set_option maxRecDepth 20000 in
theorem ggX6_firstWrongInGroup_X6_askedOf : GoodIn wsX6_firstWrongInGroup wsX6_askedOf := goodIn_r _ [31, 21, 4, 22, 23, 24, 25, 9, 26, 27, 32, 33, 34, 19, 35, 36, 37, 38, 39, 40, 41, 42, 43, 3, 5, 44, 45, 46, 47, 48, 49, 7, 8, 10, 11, 12, 13, 14, 15, 16, 50, 51, 52, 53, 6, 59, 60, 61, 62, 63, 64, 65, 66, 67, 54, 55, 56, 57, 58] (by decide +kernel) (by decide +kernel)
set_option maxRecDepth 20000 in
theorem gX6_firstWrongInGroup_X6_askedOf : GoodIn wsX6_firstWrongInGroup (wsV RX6 68 RX6 yX6_askedOf wsX6_askedOf) := goodIn_app (goodIn_of _ (by decide +kernel)) ggX6_firstWrongInGroup_X6_askedOf
theorem dX6_firstWrongInGroup_0 : decode cX6_firstWrongInGroup 0 = .ok (.iconst 0, 1) := by decide +kernel
theorem dX6_firstWrongInGroup_1 : decode cX6_firstWrongInGroup 1 = .ok (.istore 4, 2) := by decide +kernel
theorem dX6_firstWrongInGroup_3 : decode cX6_firstWrongInGroup 3 = .ok (.iload 4, 2) := by decide +kernel
theorem dX6_firstWrongInGroup_5 : decode cX6_firstWrongInGroup 5 = .ok (.sipush 256, 3) := by decide +kernel
theorem dX6_firstWrongInGroup_8 : decode cX6_firstWrongInGroup 8 = .ok (.if_icmp .ge 74, 3) := by decide +kernel
theorem dX6_firstWrongInGroup_11 : decode cX6_firstWrongInGroup 11 = .ok (.iload 4, 2) := by decide +kernel
theorem dX6_firstWrongInGroup_13 : decode cX6_firstWrongInGroup 13 = .ok (.invokestatic 56, 3) := by decide +kernel
theorem dX6_firstWrongInGroup_16 : decode cX6_firstWrongInGroup 16 = .ok (.istore 5, 2) := by decide +kernel
theorem dX6_firstWrongInGroup_18 : decode cX6_firstWrongInGroup 18 = .ok (.aload_n 1, 1) := by decide +kernel
theorem dX6_firstWrongInGroup_19 : decode cX6_firstWrongInGroup 19 = .ok (.iload 5, 2) := by decide +kernel
theorem dX6_firstWrongInGroup_21 : decode cX6_firstWrongInGroup 21 = .ok (.invokevirtual 60, 3) := by decide +kernel
theorem dX6_firstWrongInGroup_24 : decode cX6_firstWrongInGroup 24 = .ok (.ifCond .eq 52, 3) := by decide +kernel
theorem dX6_firstWrongInGroup_27 : decode cX6_firstWrongInGroup 27 = .ok (.aload_n 1, 1) := by decide +kernel
theorem dX6_firstWrongInGroup_28 : decode cX6_firstWrongInGroup 28 = .ok (.iload_n 2, 1) := by decide +kernel
theorem dX6_firstWrongInGroup_29 : decode cX6_firstWrongInGroup 29 = .ok (.iload_n 3, 1) := by decide +kernel
theorem dX6_firstWrongInGroup_30 : decode cX6_firstWrongInGroup 30 = .ok (.iload 4, 2) := by decide +kernel
theorem dX6_firstWrongInGroup_32 : decode cX6_firstWrongInGroup 32 = .ok (.invokestatic 64, 3) := by decide +kernel
theorem dX6_firstWrongInGroup_35 : decode cX6_firstWrongInGroup 35 = .ok (.ifCond .eq 6, 3) := by decide +kernel
theorem dX6_firstWrongInGroup_38 : decode cX6_firstWrongInGroup 38 = .ok (.goto 38, 3) := by decide +kernel
theorem dX6_firstWrongInGroup_41 : decode cX6_firstWrongInGroup 41 = .ok (.aload_n 0, 1) := by decide +kernel
theorem dX6_firstWrongInGroup_42 : decode cX6_firstWrongInGroup 42 = .ok (.getfield 15, 3) := by decide +kernel
theorem dX6_firstWrongInGroup_45 : decode cX6_firstWrongInGroup 45 = .ok (.iload 4, 2) := by decide +kernel
theorem dX6_firstWrongInGroup_47 : decode cX6_firstWrongInGroup 47 = .ok (.laload, 1) := by decide +kernel
theorem dX6_firstWrongInGroup_48 : decode cX6_firstWrongInGroup 48 = .ok (.lconst 0, 1) := by decide +kernel
theorem dX6_firstWrongInGroup_49 : decode cX6_firstWrongInGroup 49 = .ok (.lcmp, 1) := by decide +kernel
theorem dX6_firstWrongInGroup_50 : decode cX6_firstWrongInGroup 50 = .ok (.ifCond .ne 23, 3) := by decide +kernel
theorem dX6_firstWrongInGroup_53 : decode cX6_firstWrongInGroup 53 = .ok (.aload_n 0, 1) := by decide +kernel
theorem dX6_firstWrongInGroup_54 : decode cX6_firstWrongInGroup 54 = .ok (.getfield 11, 3) := by decide +kernel
theorem dX6_firstWrongInGroup_57 : decode cX6_firstWrongInGroup 57 = .ok (.iload 4, 2) := by decide +kernel
theorem dX6_firstWrongInGroup_59 : decode cX6_firstWrongInGroup 59 = .ok (.laload, 1) := by decide +kernel
theorem dX6_firstWrongInGroup_60 : decode cX6_firstWrongInGroup 60 = .ok (.aload_n 0, 1) := by decide +kernel
theorem dX6_firstWrongInGroup_61 : decode cX6_firstWrongInGroup 61 = .ok (.aload_n 1, 1) := by decide +kernel
theorem dX6_firstWrongInGroup_62 : decode cX6_firstWrongInGroup 62 = .ok (.iload_n 2, 1) := by decide +kernel
theorem dX6_firstWrongInGroup_63 : decode cX6_firstWrongInGroup 63 = .ok (.iload_n 3, 1) := by decide +kernel
theorem dX6_firstWrongInGroup_64 : decode cX6_firstWrongInGroup 64 = .ok (.iload 4, 2) := by decide +kernel
theorem dX6_firstWrongInGroup_66 : decode cX6_firstWrongInGroup 66 = .ok (.invokevirtual 68, 3) := by decide +kernel
theorem dX6_firstWrongInGroup_69 : decode cX6_firstWrongInGroup 69 = .ok (.lcmp, 1) := by decide +kernel
theorem dX6_firstWrongInGroup_70 : decode cX6_firstWrongInGroup 70 = .ok (.ifCond .eq 6, 3) := by decide +kernel
theorem dX6_firstWrongInGroup_73 : decode cX6_firstWrongInGroup 73 = .ok (.iload 4, 2) := by decide +kernel
theorem dX6_firstWrongInGroup_75 : decode cX6_firstWrongInGroup 75 = .ok (.ireturn, 1) := by decide +kernel
theorem dX6_firstWrongInGroup_76 : decode cX6_firstWrongInGroup 76 = .ok (.iinc 4 1, 3) := by decide +kernel
theorem dX6_firstWrongInGroup_79 : decode cX6_firstWrongInGroup 79 = .ok (.goto (-76), 3) := by decide +kernel
theorem dX6_firstWrongInGroup_82 : decode cX6_firstWrongInGroup 82 = .ok (.sipush 256, 3) := by decide +kernel
theorem dX6_firstWrongInGroup_85 : decode cX6_firstWrongInGroup 85 = .ok (.ireturn, 1) := by decide +kernel
set_option maxRecDepth 20000 in
theorem ggX6_isFree_X8_hostOfCell : GoodIn wsX6_isFree wsX8_hostOfCell := goodIn_r _ [3] (by decide +kernel) (by decide +kernel)
set_option maxRecDepth 20000 in
theorem gX6_isFree_X8_hostOfCell_n56 : GoodIn wsX6_isFree (wsX8_hostOfCell) := ggX6_isFree_X8_hostOfCell
set_option maxRecDepth 20000 in
theorem ggX6_isFree_X8_blockOfCell : GoodIn wsX6_isFree wsX8_blockOfCell := goodIn_r _ [5] (by decide +kernel) (by decide +kernel)
set_option maxRecDepth 20000 in
theorem gX6_isFree_X8_blockOfCell_n72 : GoodIn wsX6_isFree (wsX8_blockOfCell) := ggX6_isFree_X8_blockOfCell
set_option maxRecDepth 20000 in
theorem ggX6_isFree_X3_ranks : GoodIn wsX6_isFree wsX3_ranks := goodIn_r _ [10, 11, 12, 13, 14, 15, 16, 17, 18, 19, 20] (by decide +kernel) (by decide +kernel)
set_option maxRecDepth 20000 in
theorem gX6_isFree_X3_ranks : GoodIn wsX6_isFree (wsV RX6 75 RX3 yX3_ranks wsX3_ranks) := goodIn_app (goodIn_of _ (by decide +kernel)) ggX6_isFree_X3_ranks
theorem dX6_isFree_0 : decode cX6_isFree 0 = .ok (.iload_n 1, 1) := by decide +kernel
theorem dX6_isFree_1 : decode cX6_isFree 1 = .ok (.iconst 1, 1) := by decide +kernel
theorem dX6_isFree_2 : decode cX6_isFree 2 = .ok (.if_icmp .ne 26, 3) := by decide +kernel
theorem dX6_isFree_5 : decode cX6_isFree 5 = .ok (.iload_n 3, 1) := by decide +kernel
theorem dX6_isFree_6 : decode cX6_isFree 6 = .ok (.invokestatic 56, 3) := by decide +kernel
theorem dX6_isFree_9 : decode cX6_isFree 9 = .ok (.iload_n 2, 1) := by decide +kernel
theorem dX6_isFree_10 : decode cX6_isFree 10 = .ok (.if_icmp .eq 18, 3) := by decide +kernel
theorem dX6_isFree_13 : decode cX6_isFree 13 = .ok (.iload_n 3, 1) := by decide +kernel
theorem dX6_isFree_14 : decode cX6_isFree 14 = .ok (.invokestatic 72, 3) := by decide +kernel
theorem dX6_isFree_17 : decode cX6_isFree 17 = .ok (.aload_n 0, 1) := by decide +kernel
theorem dX6_isFree_18 : decode cX6_isFree 18 = .ok (.invokevirtual 75, 3) := by decide +kernel
theorem dX6_isFree_21 : decode cX6_isFree 21 = .ok (.if_icmp .ge 7, 3) := by decide +kernel
theorem dX6_isFree_24 : decode cX6_isFree 24 = .ok (.iconst 1, 1) := by decide +kernel
theorem dX6_isFree_25 : decode cX6_isFree 25 = .ok (.goto 4, 3) := by decide +kernel
theorem dX6_isFree_28 : decode cX6_isFree 28 = .ok (.iconst 0, 1) := by decide +kernel
theorem dX6_isFree_29 : decode cX6_isFree 29 = .ok (.ireturn, 1) := by decide +kernel
set_option maxRecDepth 20000 in
theorem ggX6_askedOf_X8_blockOfCell : GoodIn wsX6_askedOf wsX8_blockOfCell := goodIn_r _ [3] (by decide +kernel) (by decide +kernel)
set_option maxRecDepth 20000 in
theorem gX6_askedOf_X8_blockOfCell_n72 : GoodIn wsX6_askedOf (wsX8_blockOfCell) := ggX6_askedOf_X8_blockOfCell
set_option maxRecDepth 20000 in
theorem ggX6_askedOf_X3_ranks : GoodIn wsX6_askedOf wsX3_ranks := goodIn_r _ [8, 9, 45, 46, 47, 48, 49, 50, 51, 52, 53] (by decide +kernel) (by decide +kernel)
set_option maxRecDepth 20000 in
theorem gX6_askedOf_X3_ranks : GoodIn wsX6_askedOf (wsV RX6 75 RX3 yX3_ranks wsX3_ranks) := goodIn_app (goodIn_of _ (by decide +kernel)) ggX6_askedOf_X3_ranks
set_option maxRecDepth 20000 in
theorem ggX6_askedOf_X6_signOf : GoodIn wsX6_askedOf wsX6_signOf := goodIn_r _ [14, 15, 54, 55, 56, 57, 58] (by decide +kernel) (by decide +kernel)
set_option maxRecDepth 20000 in
theorem gX6_askedOf_X6_signOf : GoodIn wsX6_askedOf (wsV RX6 52 RX6 yX6_signOf wsX6_signOf) := goodIn_app (goodIn_of _ (by decide +kernel)) ggX6_askedOf_X6_signOf
set_option maxRecDepth 20000 in
theorem ggX6_askedOf_X8_cell : GoodIn wsX6_askedOf wsX8_cell := goodIn_r _ [17] (by decide +kernel) (by decide +kernel)
set_option maxRecDepth 20000 in
theorem gX6_askedOf_X8_cell_n78 : GoodIn wsX6_askedOf (wsX8_cell) := ggX6_askedOf_X8_cell
set_option maxRecDepth 20000 in
theorem ggX6_askedOf_X3_hostOf : GoodIn wsX6_askedOf wsX3_hostOf := goodIn_r _ [21, 9, 22, 45, 46, 47, 48, 49, 50, 51, 52, 53] (by decide +kernel) (by decide +kernel)
set_option maxRecDepth 20000 in
theorem gX6_askedOf_X3_hostOf : GoodIn wsX6_askedOf (wsV RX6 81 RX3 yX3_hostOf wsX3_hostOf) := goodIn_app (goodIn_of _ (by decide +kernel)) ggX6_askedOf_X3_hostOf
set_option maxRecDepth 20000 in
theorem ggX6_askedOf_X8_hostOfCell : GoodIn wsX6_askedOf wsX8_hostOfCell := goodIn_r _ [24] (by decide +kernel) (by decide +kernel)
set_option maxRecDepth 20000 in
theorem gX6_askedOf_X8_hostOfCell_n56 : GoodIn wsX6_askedOf (wsX8_hostOfCell) := ggX6_askedOf_X8_hostOfCell
set_option maxRecDepth 20000 in
theorem ggX6_askedOf_X3_rankOf : GoodIn wsX6_askedOf wsX3_rankOf := goodIn_r _ [28, 29, 30, 31, 32, 7, 33, 34, 35, 36, 37, 38, 39, 45, 46, 47, 48, 49, 50, 51, 52, 53] (by decide +kernel) (by decide +kernel)
set_option maxRecDepth 20000 in
theorem gX6_askedOf_X3_rankOf : GoodIn wsX6_askedOf (wsV RX6 84 RX3 yX3_rankOf wsX3_rankOf) := goodIn_app (goodIn_of _ (by decide +kernel)) ggX6_askedOf_X3_rankOf
set_option maxRecDepth 20000 in
theorem ggX6_askedOf_X6_sumOf : GoodIn wsX6_askedOf wsX6_sumOf := goodIn_r _ [43, 15, 44, 31, 32, 7, 33, 34, 35, 36, 37, 38, 39, 16, 2, 17, 10, 11, 12, 13, 14, 54, 55, 56, 57, 58, 45, 46, 47, 48, 49, 50, 51, 52, 53] (by decide +kernel) (by decide +kernel)
set_option maxRecDepth 20000 in
theorem gX6_askedOf_X6_sumOf : GoodIn wsX6_askedOf (wsV RX6 87 RX6 yX6_sumOf wsX6_sumOf) := goodIn_app (goodIn_of _ (by decide +kernel)) ggX6_askedOf_X6_sumOf
theorem dX6_askedOf_0 : decode cX6_askedOf 0 = .ok (.iload 4, 2) := by decide +kernel
theorem dX6_askedOf_2 : decode cX6_askedOf 2 = .ok (.invokestatic 72, 3) := by decide +kernel
theorem dX6_askedOf_5 : decode cX6_askedOf 5 = .ok (.istore 5, 2) := by decide +kernel
theorem dX6_askedOf_7 : decode cX6_askedOf 7 = .ok (.iload 5, 2) := by decide +kernel
theorem dX6_askedOf_9 : decode cX6_askedOf 9 = .ok (.aload_n 1, 1) := by decide +kernel
theorem dX6_askedOf_10 : decode cX6_askedOf 10 = .ok (.invokevirtual 75, 3) := by decide +kernel
theorem dX6_askedOf_13 : decode cX6_askedOf 13 = .ok (.if_icmp .lt 10, 3) := by decide +kernel
theorem dX6_askedOf_16 : decode cX6_askedOf 16 = .ok (.aload_n 0, 1) := by decide +kernel
theorem dX6_askedOf_17 : decode cX6_askedOf 17 = .ok (.iload 4, 2) := by decide +kernel
theorem dX6_askedOf_19 : decode cX6_askedOf 19 = .ok (.invokevirtual 52, 3) := by decide +kernel
theorem dX6_askedOf_22 : decode cX6_askedOf 22 = .ok (.lreturn, 1) := by decide +kernel
theorem dX6_askedOf_23 : decode cX6_askedOf 23 = .ok (.iload_n 2, 1) := by decide +kernel
theorem dX6_askedOf_24 : decode cX6_askedOf 24 = .ok (.tableswitch 86 0 4 #[36, 86, 86, 47, 63], 36) := by decide +kernel
theorem dX6_askedOf_60 : decode cX6_askedOf 60 = .ok (.aload_n 0, 1) := by decide +kernel
theorem dX6_askedOf_61 : decode cX6_askedOf 61 = .ok (.iload_n 3, 1) := by decide +kernel
theorem dX6_askedOf_62 : decode cX6_askedOf 62 = .ok (.iload 5, 2) := by decide +kernel
theorem dX6_askedOf_64 : decode cX6_askedOf 64 = .ok (.invokestatic 78, 3) := by decide +kernel
theorem dX6_askedOf_67 : decode cX6_askedOf 67 = .ok (.invokevirtual 52, 3) := by decide +kernel
theorem dX6_askedOf_70 : decode cX6_askedOf 70 = .ok (.lreturn, 1) := by decide +kernel
theorem dX6_askedOf_71 : decode cX6_askedOf 71 = .ok (.aload_n 0, 1) := by decide +kernel
theorem dX6_askedOf_72 : decode cX6_askedOf 72 = .ok (.aload_n 1, 1) := by decide +kernel
theorem dX6_askedOf_73 : decode cX6_askedOf 73 = .ok (.iload 5, 2) := by decide +kernel
theorem dX6_askedOf_75 : decode cX6_askedOf 75 = .ok (.invokevirtual 81, 3) := by decide +kernel
theorem dX6_askedOf_78 : decode cX6_askedOf 78 = .ok (.iload 5, 2) := by decide +kernel
theorem dX6_askedOf_80 : decode cX6_askedOf 80 = .ok (.invokestatic 78, 3) := by decide +kernel
theorem dX6_askedOf_83 : decode cX6_askedOf 83 = .ok (.invokevirtual 52, 3) := by decide +kernel
theorem dX6_askedOf_86 : decode cX6_askedOf 86 = .ok (.lreturn, 1) := by decide +kernel
theorem dX6_askedOf_87 : decode cX6_askedOf 87 = .ok (.aload_n 0, 1) := by decide +kernel
theorem dX6_askedOf_88 : decode cX6_askedOf 88 = .ok (.aload_n 1, 1) := by decide +kernel
theorem dX6_askedOf_89 : decode cX6_askedOf 89 = .ok (.iload 5, 2) := by decide +kernel
theorem dX6_askedOf_91 : decode cX6_askedOf 91 = .ok (.invokevirtual 81, 3) := by decide +kernel
theorem dX6_askedOf_94 : decode cX6_askedOf 94 = .ok (.aload_n 1, 1) := by decide +kernel
theorem dX6_askedOf_95 : decode cX6_askedOf 95 = .ok (.iload 4, 2) := by decide +kernel
theorem dX6_askedOf_97 : decode cX6_askedOf 97 = .ok (.invokestatic 56, 3) := by decide +kernel
theorem dX6_askedOf_100 : decode cX6_askedOf 100 = .ok (.invokevirtual 84, 3) := by decide +kernel
theorem dX6_askedOf_103 : decode cX6_askedOf 103 = .ok (.invokestatic 78, 3) := by decide +kernel
theorem dX6_askedOf_106 : decode cX6_askedOf 106 = .ok (.invokevirtual 52, 3) := by decide +kernel
theorem dX6_askedOf_109 : decode cX6_askedOf 109 = .ok (.lreturn, 1) := by decide +kernel
theorem dX6_askedOf_110 : decode cX6_askedOf 110 = .ok (.aload_n 0, 1) := by decide +kernel
theorem dX6_askedOf_111 : decode cX6_askedOf 111 = .ok (.aload_n 1, 1) := by decide +kernel
theorem dX6_askedOf_112 : decode cX6_askedOf 112 = .ok (.iload 5, 2) := by decide +kernel
theorem dX6_askedOf_114 : decode cX6_askedOf 114 = .ok (.invokevirtual 87, 3) := by decide +kernel
theorem dX6_askedOf_117 : decode cX6_askedOf 117 = .ok (.lreturn, 1) := by decide +kernel
set_option maxRecDepth 20000 in
theorem ggX6_sumOf_X3_isLive : GoodIn wsX6_sumOf wsX3_isLive := goodIn_r _ [6, 7, 8, 9, 10, 5, 11, 12, 26, 27, 28, 29, 30, 31, 32, 33, 34] (by decide +kernel) (by decide +kernel)
set_option maxRecDepth 20000 in
theorem gX6_sumOf_X3_isLive : GoodIn wsX6_sumOf (wsV RX6 60 RX3 yX3_isLive wsX3_isLive) := goodIn_app (goodIn_of _ (by decide +kernel)) ggX6_sumOf_X3_isLive
set_option maxRecDepth 20000 in
theorem ggX6_sumOf_X8_cell : GoodIn wsX6_sumOf wsX8_cell := goodIn_r _ [15] (by decide +kernel) (by decide +kernel)
set_option maxRecDepth 20000 in
theorem gX6_sumOf_X8_cell_n78 : GoodIn wsX6_sumOf (wsX8_cell) := ggX6_sumOf_X8_cell
set_option maxRecDepth 20000 in
theorem ggX6_sumOf_X6_signOf : GoodIn wsX6_sumOf wsX6_signOf := goodIn_r _ [20, 1, 21, 22, 23, 24, 25] (by decide +kernel) (by decide +kernel)
set_option maxRecDepth 20000 in
theorem gX6_sumOf_X6_signOf : GoodIn wsX6_sumOf (wsV RX6 52 RX6 yX6_signOf wsX6_signOf) := goodIn_app (goodIn_of _ (by decide +kernel)) ggX6_sumOf_X6_signOf
theorem dX6_sumOf_0 : decode cX6_sumOf 0 = .ok (.lconst 0, 1) := by decide +kernel
theorem dX6_sumOf_1 : decode cX6_sumOf 1 = .ok (.lstore_n 3, 1) := by decide +kernel
theorem dX6_sumOf_2 : decode cX6_sumOf 2 = .ok (.iconst 0, 1) := by decide +kernel
theorem dX6_sumOf_3 : decode cX6_sumOf 3 = .ok (.istore 5, 2) := by decide +kernel
theorem dX6_sumOf_5 : decode cX6_sumOf 5 = .ok (.iload 5, 2) := by decide +kernel
theorem dX6_sumOf_7 : decode cX6_sumOf 7 = .ok (.iconst 4, 1) := by decide +kernel
theorem dX6_sumOf_8 : decode cX6_sumOf 8 = .ok (.if_icmp .ge 42, 3) := by decide +kernel
theorem dX6_sumOf_11 : decode cX6_sumOf 11 = .ok (.aload_n 0, 1) := by decide +kernel
theorem dX6_sumOf_12 : decode cX6_sumOf 12 = .ok (.getfield 48, 3) := by decide +kernel
theorem dX6_sumOf_15 : decode cX6_sumOf 15 = .ok (.iconst 4, 1) := by decide +kernel
theorem dX6_sumOf_16 : decode cX6_sumOf 16 = .ok (.imul, 1) := by decide +kernel
theorem dX6_sumOf_17 : decode cX6_sumOf 17 = .ok (.iload 5, 2) := by decide +kernel
theorem dX6_sumOf_19 : decode cX6_sumOf 19 = .ok (.iadd, 1) := by decide +kernel
theorem dX6_sumOf_20 : decode cX6_sumOf 20 = .ok (.istore 6, 2) := by decide +kernel
theorem dX6_sumOf_22 : decode cX6_sumOf 22 = .ok (.aload_n 1, 1) := by decide +kernel
theorem dX6_sumOf_23 : decode cX6_sumOf 23 = .ok (.iload 6, 2) := by decide +kernel
theorem dX6_sumOf_25 : decode cX6_sumOf 25 = .ok (.invokevirtual 60, 3) := by decide +kernel
theorem dX6_sumOf_28 : decode cX6_sumOf 28 = .ok (.ifCond .eq 16, 3) := by decide +kernel
theorem dX6_sumOf_31 : decode cX6_sumOf 31 = .ok (.lload_n 3, 1) := by decide +kernel
theorem dX6_sumOf_32 : decode cX6_sumOf 32 = .ok (.aload_n 0, 1) := by decide +kernel
theorem dX6_sumOf_33 : decode cX6_sumOf 33 = .ok (.iload 6, 2) := by decide +kernel
theorem dX6_sumOf_35 : decode cX6_sumOf 35 = .ok (.iload_n 2, 1) := by decide +kernel
theorem dX6_sumOf_36 : decode cX6_sumOf 36 = .ok (.invokestatic 78, 3) := by decide +kernel
theorem dX6_sumOf_39 : decode cX6_sumOf 39 = .ok (.invokevirtual 52, 3) := by decide +kernel
theorem dX6_sumOf_42 : decode cX6_sumOf 42 = .ok (.lor, 1) := by decide +kernel
theorem dX6_sumOf_43 : decode cX6_sumOf 43 = .ok (.lstore_n 3, 1) := by decide +kernel
theorem dX6_sumOf_44 : decode cX6_sumOf 44 = .ok (.iinc 5 1, 3) := by decide +kernel
theorem dX6_sumOf_47 : decode cX6_sumOf 47 = .ok (.goto (-42), 3) := by decide +kernel
theorem dX6_sumOf_50 : decode cX6_sumOf 50 = .ok (.lload_n 3, 1) := by decide +kernel
theorem dX6_sumOf_51 : decode cX6_sumOf 51 = .ok (.lreturn, 1) := by decide +kernel
theorem dX6_signOf_0 : decode cX6_signOf 0 = .ok (.iload_n 1, 1) := by decide +kernel
theorem dX6_signOf_1 : decode cX6_signOf 1 = .ok (.aload_n 0, 1) := by decide +kernel
theorem dX6_signOf_2 : decode cX6_signOf 2 = .ok (.getfield 48, 3) := by decide +kernel
theorem dX6_signOf_5 : decode cX6_signOf 5 = .ok (.bipush 64, 2) := by decide +kernel
theorem dX6_signOf_7 : decode cX6_signOf 7 = .ok (.imul, 1) := by decide +kernel
theorem dX6_signOf_8 : decode cX6_signOf 8 = .ok (.isub, 1) := by decide +kernel
theorem dX6_signOf_9 : decode cX6_signOf 9 = .ok (.istore_n 2, 1) := by decide +kernel
theorem dX6_signOf_10 : decode cX6_signOf 10 = .ok (.iload_n 2, 1) := by decide +kernel
theorem dX6_signOf_11 : decode cX6_signOf 11 = .ok (.ifCond .lt 15, 3) := by decide +kernel
theorem dX6_signOf_14 : decode cX6_signOf 14 = .ok (.iload_n 2, 1) := by decide +kernel
theorem dX6_signOf_15 : decode cX6_signOf 15 = .ok (.bipush 64, 2) := by decide +kernel
theorem dX6_signOf_17 : decode cX6_signOf 17 = .ok (.if_icmp .ge 9, 3) := by decide +kernel
theorem dX6_signOf_20 : decode cX6_signOf 20 = .ok (.lconst 1, 1) := by decide +kernel
theorem dX6_signOf_21 : decode cX6_signOf 21 = .ok (.iload_n 2, 1) := by decide +kernel
theorem dX6_signOf_22 : decode cX6_signOf 22 = .ok (.lshl, 1) := by decide +kernel
theorem dX6_signOf_23 : decode cX6_signOf 23 = .ok (.goto 4, 3) := by decide +kernel
theorem dX6_signOf_26 : decode cX6_signOf 26 = .ok (.lconst 0, 1) := by decide +kernel
theorem dX6_signOf_27 : decode cX6_signOf 27 = .ok (.lreturn, 1) := by decide +kernel
set_option maxRecDepth 20000 in
theorem ggX6_takeUp_X8_isCell : GoodIn wsX6_takeUp wsX8_isCell := goodIn_r _ [7] (by decide +kernel) (by decide +kernel)
set_option maxRecDepth 20000 in
theorem gX6_takeUp_X8_isCell_n91 : GoodIn wsX6_takeUp (wsX8_isCell) := ggX6_takeUp_X8_isCell
theorem dX6_takeUp_0 : decode cX6_takeUp 0 = .ok (.iload_n 1, 1) := by decide +kernel
theorem dX6_takeUp_1 : decode cX6_takeUp 1 = .ok (.invokestatic 91, 3) := by decide +kernel
theorem dX6_takeUp_4 : decode cX6_takeUp 4 = .ok (.ifCond .eq 34, 3) := by decide +kernel
theorem dX6_takeUp_7 : decode cX6_takeUp 7 = .ok (.iload_n 2, 1) := by decide +kernel
theorem dX6_takeUp_8 : decode cX6_takeUp 8 = .ok (.invokestatic 91, 3) := by decide +kernel
theorem dX6_takeUp_11 : decode cX6_takeUp 11 = .ok (.ifCond .eq 27, 3) := by decide +kernel
theorem dX6_takeUp_14 : decode cX6_takeUp 14 = .ok (.aload_n 0, 1) := by decide +kernel
theorem dX6_takeUp_15 : decode cX6_takeUp 15 = .ok (.getfield 18, 3) := by decide +kernel
theorem dX6_takeUp_18 : decode cX6_takeUp 18 = .ok (.iload_n 2, 1) := by decide +kernel
theorem dX6_takeUp_19 : decode cX6_takeUp 19 = .ok (.aload_n 0, 1) := by decide +kernel
theorem dX6_takeUp_20 : decode cX6_takeUp 20 = .ok (.getfield 11, 3) := by decide +kernel
theorem dX6_takeUp_23 : decode cX6_takeUp 23 = .ok (.iload_n 1, 1) := by decide +kernel
theorem dX6_takeUp_24 : decode cX6_takeUp 24 = .ok (.laload, 1) := by decide +kernel
theorem dX6_takeUp_25 : decode cX6_takeUp 25 = .ok (.lastore, 1) := by decide +kernel
theorem dX6_takeUp_26 : decode cX6_takeUp 26 = .ok (.aload_n 0, 1) := by decide +kernel
theorem dX6_takeUp_27 : decode cX6_takeUp 27 = .ok (.getfield 21, 3) := by decide +kernel
theorem dX6_takeUp_30 : decode cX6_takeUp 30 = .ok (.iload_n 2, 1) := by decide +kernel
theorem dX6_takeUp_31 : decode cX6_takeUp 31 = .ok (.aload_n 0, 1) := by decide +kernel
theorem dX6_takeUp_32 : decode cX6_takeUp 32 = .ok (.getfield 15, 3) := by decide +kernel
theorem dX6_takeUp_35 : decode cX6_takeUp 35 = .ok (.iload_n 1, 1) := by decide +kernel
theorem dX6_takeUp_36 : decode cX6_takeUp 36 = .ok (.laload, 1) := by decide +kernel
theorem dX6_takeUp_37 : decode cX6_takeUp 37 = .ok (.lastore, 1) := by decide +kernel
theorem dX6_takeUp_38 : decode cX6_takeUp 38 = .ok (.return_, 1) := by decide +kernel
set_option maxRecDepth 20000 in
theorem ggX6_putDown_X8_isCell : GoodIn wsX6_putDown wsX8_isCell := goodIn_r _ [7] (by decide +kernel) (by decide +kernel)
set_option maxRecDepth 20000 in
theorem gX6_putDown_X8_isCell_n91 : GoodIn wsX6_putDown (wsX8_isCell) := ggX6_putDown_X8_isCell
theorem dX6_putDown_0 : decode cX6_putDown 0 = .ok (.iload_n 1, 1) := by decide +kernel
theorem dX6_putDown_1 : decode cX6_putDown 1 = .ok (.invokestatic 91, 3) := by decide +kernel
theorem dX6_putDown_4 : decode cX6_putDown 4 = .ok (.ifCond .eq 27, 3) := by decide +kernel
theorem dX6_putDown_7 : decode cX6_putDown 7 = .ok (.aload_n 0, 1) := by decide +kernel
theorem dX6_putDown_8 : decode cX6_putDown 8 = .ok (.getfield 11, 3) := by decide +kernel
theorem dX6_putDown_11 : decode cX6_putDown 11 = .ok (.iload_n 1, 1) := by decide +kernel
theorem dX6_putDown_12 : decode cX6_putDown 12 = .ok (.aload_n 0, 1) := by decide +kernel
theorem dX6_putDown_13 : decode cX6_putDown 13 = .ok (.getfield 18, 3) := by decide +kernel
theorem dX6_putDown_16 : decode cX6_putDown 16 = .ok (.iload_n 1, 1) := by decide +kernel
theorem dX6_putDown_17 : decode cX6_putDown 17 = .ok (.laload, 1) := by decide +kernel
theorem dX6_putDown_18 : decode cX6_putDown 18 = .ok (.lastore, 1) := by decide +kernel
theorem dX6_putDown_19 : decode cX6_putDown 19 = .ok (.aload_n 0, 1) := by decide +kernel
theorem dX6_putDown_20 : decode cX6_putDown 20 = .ok (.getfield 15, 3) := by decide +kernel
theorem dX6_putDown_23 : decode cX6_putDown 23 = .ok (.iload_n 1, 1) := by decide +kernel
theorem dX6_putDown_24 : decode cX6_putDown 24 = .ok (.aload_n 0, 1) := by decide +kernel
theorem dX6_putDown_25 : decode cX6_putDown 25 = .ok (.getfield 21, 3) := by decide +kernel
theorem dX6_putDown_28 : decode cX6_putDown 28 = .ok (.iload_n 1, 1) := by decide +kernel
theorem dX6_putDown_29 : decode cX6_putDown 29 = .ok (.laload, 1) := by decide +kernel
theorem dX6_putDown_30 : decode cX6_putDown 30 = .ok (.lastore, 1) := by decide +kernel
theorem dX6_putDown_31 : decode cX6_putDown 31 = .ok (.return_, 1) := by decide +kernel
set_option maxRecDepth 20000 in
theorem ggX6_addDown_X8_isCell : GoodIn wsX6_addDown wsX8_isCell := goodIn_r _ [7] (by decide +kernel) (by decide +kernel)
set_option maxRecDepth 20000 in
theorem gX6_addDown_X8_isCell_n91 : GoodIn wsX6_addDown (wsX8_isCell) := ggX6_addDown_X8_isCell
theorem dX6_addDown_0 : decode cX6_addDown 0 = .ok (.iload_n 1, 1) := by decide +kernel
theorem dX6_addDown_1 : decode cX6_addDown 1 = .ok (.invokestatic 91, 3) := by decide +kernel
theorem dX6_addDown_4 : decode cX6_addDown 4 = .ok (.ifCond .eq 47, 3) := by decide +kernel
theorem dX6_addDown_7 : decode cX6_addDown 7 = .ok (.aload_n 0, 1) := by decide +kernel
theorem dX6_addDown_8 : decode cX6_addDown 8 = .ok (.getfield 15, 3) := by decide +kernel
theorem dX6_addDown_11 : decode cX6_addDown 11 = .ok (.iload_n 1, 1) := by decide +kernel
theorem dX6_addDown_12 : decode cX6_addDown 12 = .ok (.dup2, 1) := by decide +kernel
theorem dX6_addDown_13 : decode cX6_addDown 13 = .ok (.laload, 1) := by decide +kernel
theorem dX6_addDown_14 : decode cX6_addDown 14 = .ok (.aload_n 0, 1) := by decide +kernel
theorem dX6_addDown_15 : decode cX6_addDown 15 = .ok (.getfield 21, 3) := by decide +kernel
theorem dX6_addDown_18 : decode cX6_addDown 18 = .ok (.iload_n 1, 1) := by decide +kernel
theorem dX6_addDown_19 : decode cX6_addDown 19 = .ok (.laload, 1) := by decide +kernel
theorem dX6_addDown_20 : decode cX6_addDown 20 = .ok (.aload_n 0, 1) := by decide +kernel
theorem dX6_addDown_21 : decode cX6_addDown 21 = .ok (.getfield 11, 3) := by decide +kernel
theorem dX6_addDown_24 : decode cX6_addDown 24 = .ok (.iload_n 1, 1) := by decide +kernel
theorem dX6_addDown_25 : decode cX6_addDown 25 = .ok (.laload, 1) := by decide +kernel
theorem dX6_addDown_26 : decode cX6_addDown 26 = .ok (.aload_n 0, 1) := by decide +kernel
theorem dX6_addDown_27 : decode cX6_addDown 27 = .ok (.getfield 18, 3) := by decide +kernel
theorem dX6_addDown_30 : decode cX6_addDown 30 = .ok (.iload_n 1, 1) := by decide +kernel
theorem dX6_addDown_31 : decode cX6_addDown 31 = .ok (.laload, 1) := by decide +kernel
theorem dX6_addDown_32 : decode cX6_addDown 32 = .ok (.land, 1) := by decide +kernel
theorem dX6_addDown_33 : decode cX6_addDown 33 = .ok (.lor, 1) := by decide +kernel
theorem dX6_addDown_34 : decode cX6_addDown 34 = .ok (.lor, 1) := by decide +kernel
theorem dX6_addDown_35 : decode cX6_addDown 35 = .ok (.lastore, 1) := by decide +kernel
theorem dX6_addDown_36 : decode cX6_addDown 36 = .ok (.aload_n 0, 1) := by decide +kernel
theorem dX6_addDown_37 : decode cX6_addDown 37 = .ok (.getfield 11, 3) := by decide +kernel
theorem dX6_addDown_40 : decode cX6_addDown 40 = .ok (.iload_n 1, 1) := by decide +kernel
theorem dX6_addDown_41 : decode cX6_addDown 41 = .ok (.dup2, 1) := by decide +kernel
theorem dX6_addDown_42 : decode cX6_addDown 42 = .ok (.laload, 1) := by decide +kernel
theorem dX6_addDown_43 : decode cX6_addDown 43 = .ok (.aload_n 0, 1) := by decide +kernel
theorem dX6_addDown_44 : decode cX6_addDown 44 = .ok (.getfield 18, 3) := by decide +kernel
theorem dX6_addDown_47 : decode cX6_addDown 47 = .ok (.iload_n 1, 1) := by decide +kernel
theorem dX6_addDown_48 : decode cX6_addDown 48 = .ok (.laload, 1) := by decide +kernel
theorem dX6_addDown_49 : decode cX6_addDown 49 = .ok (.lor, 1) := by decide +kernel
theorem dX6_addDown_50 : decode cX6_addDown 50 = .ok (.lastore, 1) := by decide +kernel
theorem dX6_addDown_51 : decode cX6_addDown 51 = .ok (.return_, 1) := by decide +kernel
theorem dX7_init_0 : decode cX7_init 0 = .ok (.aload_n 0, 1) := by decide +kernel
theorem dX7_init_1 : decode cX7_init 1 = .ok (.invokespecial 3, 3) := by decide +kernel
theorem dX7_init_4 : decode cX7_init 4 = .ok (.return_, 1) := by decide +kernel
set_option maxRecDepth 20000 in
theorem ggX7_draw_X8_isAsked : GoodIn wsX7_draw wsX8_isAsked := goodIn_r _ [7, 8, 9, 10, 11, 12, 13, 14, 15, 16, 17, 18, 129, 130, 131, 132, 133, 134, 135, 136, 137] (by decide +kernel) (by decide +kernel)
set_option maxRecDepth 20000 in
theorem gX7_draw_X8_isAsked_n15 : GoodIn wsX7_draw (wsX8_isAsked) := ggX7_draw_X8_isAsked
set_option maxRecDepth 20000 in
theorem ggX7_draw_X7_begin : GoodIn wsX7_draw wsX7_begin := goodIn_r _ [23, 4, 24, 2, 25, 26, 3, 27, 28, 29, 30, 31, 32, 33, 34, 35, 11, 36, 37, 38, 39, 40, 41, 42, 43, 9, 10, 12, 13, 14, 15, 16, 17, 18, 123, 124, 125, 126, 127, 128, 138, 139, 129, 130, 131, 132, 133, 134, 135, 136, 137] (by decide +kernel) (by decide +kernel)
set_option maxRecDepth 20000 in
theorem gX7_draw_X7_begin : GoodIn wsX7_draw (wsV RX7 19 RX7 yX7_begin wsX7_begin) := goodIn_app (goodIn_of _ (by decide +kernel)) ggX7_draw_X7_begin
set_option maxRecDepth 20000 in
theorem ggX7_draw_X7_ring : GoodIn wsX7_draw wsX7_ring := goodIn_r _ [47, 48, 49, 50, 22, 51, 2, 52, 53, 54, 55, 25, 56, 57, 58, 59, 60, 61, 62, 63, 64, 65, 66, 67, 24, 3, 4, 26, 68, 69, 70, 11, 71, 37, 72, 73, 74, 75, 76, 77, 78, 79, 80, 30, 81, 32, 82, 83, 84, 85, 86, 87, 88, 89, 90, 91, 92, 93, 94, 123, 124, 125, 126, 127, 128, 129, 130, 131, 132, 133, 134, 135, 136, 137, 138, 139] (by decide +kernel) (by decide +kernel)
set_option maxRecDepth 20000 in
theorem gX7_draw_X7_ring : GoodIn wsX7_draw (wsV RX7 27 RX7 yX7_ring wsX7_ring) := goodIn_app (goodIn_of _ (by decide +kernel)) ggX7_draw_X7_ring
set_option maxRecDepth 20000 in
theorem ggX7_draw_X7_tree : GoodIn wsX7_draw wsX7_tree := goodIn_r _ [98, 2, 99, 100, 101, 22, 102, 52, 53, 54, 55, 25, 56, 57, 58, 59, 60, 61, 62, 63, 64, 65, 66, 67, 24, 3, 4, 26, 68, 69, 70, 11, 71, 37, 72, 73, 74, 75, 76, 77, 78, 79, 80, 30, 81, 32, 82, 83, 84, 85, 86, 87, 88, 89, 90, 123, 124, 125, 126, 127, 128, 129, 130, 131, 132, 133, 134, 135, 136, 137, 138, 139] (by decide +kernel) (by decide +kernel)
set_option maxRecDepth 20000 in
theorem gX7_draw_X7_tree : GoodIn wsX7_draw (wsV RX7 31 RX7 yX7_tree wsX7_tree) := goodIn_app (goodIn_of _ (by decide +kernel)) ggX7_draw_X7_tree
set_option maxRecDepth 20000 in
theorem ggX7_draw_X7_halving : GoodIn wsX7_draw wsX7_halving := goodIn_r _ [106, 2, 60, 61, 62, 22, 63, 64, 65, 66, 67, 24, 3, 4, 26, 68, 69, 70, 11, 71, 37, 72, 73, 74, 75, 76, 77, 78, 79, 80, 30, 81, 32, 82, 83, 84, 85, 86, 87, 88, 89, 90, 123, 124, 125, 126, 127, 128, 129, 130, 131, 132, 133, 134, 135, 136, 137, 138, 139] (by decide +kernel) (by decide +kernel)
set_option maxRecDepth 20000 in
theorem gX7_draw_X7_halving : GoodIn wsX7_draw (wsV RX7 34 RX7 yX7_halving wsX7_halving) := goodIn_app (goodIn_of _ (by decide +kernel)) ggX7_draw_X7_halving
set_option maxRecDepth 20000 in
theorem ggX7_draw_X7_direct : GoodIn wsX7_draw wsX7_direct := goodIn_r _ [110, 111, 112, 113, 22, 114, 2, 25, 52, 53, 54, 55, 56, 57, 58, 59, 60, 61, 62, 63, 64, 65, 66, 67, 24, 3, 4, 26, 68, 69, 70, 11, 71, 37, 72, 73, 74, 75, 76, 77, 78, 79, 80, 30, 81, 32, 82, 83, 84, 85, 86, 87, 88, 89, 90, 115, 116, 117, 118, 119, 120, 121, 122, 123, 124, 125, 126, 127, 128, 129, 130, 131, 132, 133, 134, 135, 136, 137, 138, 139] (by decide +kernel) (by decide +kernel)
set_option maxRecDepth 20000 in
theorem gX7_draw_X7_direct : GoodIn wsX7_draw (wsV RX7 37 RX7 yX7_direct wsX7_direct) := goodIn_app (goodIn_of _ (by decide +kernel)) ggX7_draw_X7_direct
set_option maxRecDepth 20000 in
theorem ggX7_draw_X4_steps : GoodIn wsX7_draw wsX4_steps := goodIn_r _ [90, 32, 82, 138, 139] (by decide +kernel) (by decide +kernel)
set_option maxRecDepth 20000 in
theorem gX7_draw_X4_steps : GoodIn wsX7_draw (wsV RX7 48 RX4 yX4_steps wsX4_steps) := goodIn_app (goodIn_of _ (by decide +kernel)) ggX7_draw_X4_steps
theorem dX7_draw_0 : decode cX7_draw 0 = .ok (.iload_n 3, 1) := by decide +kernel
theorem dX7_draw_1 : decode cX7_draw 1 = .ok (.ifCond .lt 22, 3) := by decide +kernel
theorem dX7_draw_4 : decode cX7_draw 4 = .ok (.iload_n 3, 1) := by decide +kernel
theorem dX7_draw_5 : decode cX7_draw 5 = .ok (.getstatic 9, 3) := by decide +kernel
theorem dX7_draw_8 : decode cX7_draw 8 = .ok (.arraylength, 1) := by decide +kernel
theorem dX7_draw_9 : decode cX7_draw 9 = .ok (.if_icmp .ge 14, 3) := by decide +kernel
theorem dX7_draw_12 : decode cX7_draw 12 = .ok (.aload_n 2, 1) := by decide +kernel
theorem dX7_draw_13 : decode cX7_draw 13 = .ok (.iload 4, 2) := by decide +kernel
theorem dX7_draw_15 : decode cX7_draw 15 = .ok (.iload 5, 2) := by decide +kernel
theorem dX7_draw_17 : decode cX7_draw 17 = .ok (.invokestatic 15, 3) := by decide +kernel
theorem dX7_draw_20 : decode cX7_draw 20 = .ok (.ifCond .ne 5, 3) := by decide +kernel
theorem dX7_draw_23 : decode cX7_draw 23 = .ok (.iconst (-1), 1) := by decide +kernel
theorem dX7_draw_24 : decode cX7_draw 24 = .ok (.ireturn, 1) := by decide +kernel
theorem dX7_draw_25 : decode cX7_draw 25 = .ok (.aload_n 0, 1) := by decide +kernel
theorem dX7_draw_26 : decode cX7_draw 26 = .ok (.aload_n 1, 1) := by decide +kernel
theorem dX7_draw_27 : decode cX7_draw 27 = .ok (.aload_n 2, 1) := by decide +kernel
theorem dX7_draw_28 : decode cX7_draw 28 = .ok (.iload 5, 2) := by decide +kernel
theorem dX7_draw_30 : decode cX7_draw 30 = .ok (.invokevirtual 19, 3) := by decide +kernel
theorem dX7_draw_33 : decode cX7_draw 33 = .ok (.getstatic 9, 3) := by decide +kernel
theorem dX7_draw_36 : decode cX7_draw 36 = .ok (.iload_n 3, 1) := by decide +kernel
theorem dX7_draw_37 : decode cX7_draw 37 = .ok (.iaload, 1) := by decide +kernel
theorem dX7_draw_38 : decode cX7_draw 38 = .ok (.iload 4, 2) := by decide +kernel
theorem dX7_draw_40 : decode cX7_draw 40 = .ok (.ishr, 1) := by decide +kernel
theorem dX7_draw_41 : decode cX7_draw 41 = .ok (.iconst 1, 1) := by decide +kernel
theorem dX7_draw_42 : decode cX7_draw 42 = .ok (.iand, 1) := by decide +kernel
theorem dX7_draw_43 : decode cX7_draw 43 = .ok (.ifCond .eq 22, 3) := by decide +kernel
theorem dX7_draw_46 : decode cX7_draw 46 = .ok (.iload_n 3, 1) := by decide +kernel
theorem dX7_draw_47 : decode cX7_draw 47 = .ok (.iconst 2, 1) := by decide +kernel
theorem dX7_draw_48 : decode cX7_draw 48 = .ok (.if_icmp .ne 20, 3) := by decide +kernel
theorem dX7_draw_51 : decode cX7_draw 51 = .ok (.aload_n 0, 1) := by decide +kernel
theorem dX7_draw_52 : decode cX7_draw 52 = .ok (.getfield 23, 3) := by decide +kernel
theorem dX7_draw_55 : decode cX7_draw 55 = .ok (.aload_n 0, 1) := by decide +kernel
theorem dX7_draw_56 : decode cX7_draw 56 = .ok (.getfield 23, 3) := by decide +kernel
theorem dX7_draw_59 : decode cX7_draw 59 = .ok (.iconst 1, 1) := by decide +kernel
theorem dX7_draw_60 : decode cX7_draw 60 = .ok (.isub, 1) := by decide +kernel
theorem dX7_draw_61 : decode cX7_draw 61 = .ok (.iand, 1) := by decide +kernel
theorem dX7_draw_62 : decode cX7_draw 62 = .ok (.ifCond .eq 6, 3) := by decide +kernel
theorem dX7_draw_65 : decode cX7_draw 65 = .ok (.bipush (-2), 2) := by decide +kernel
theorem dX7_draw_67 : decode cX7_draw 67 = .ok (.ireturn, 1) := by decide +kernel
theorem dX7_draw_68 : decode cX7_draw 68 = .ok (.iload_n 3, 1) := by decide +kernel
theorem dX7_draw_69 : decode cX7_draw 69 = .ok (.tableswitch 54 0 2 #[27, 36, 45], 27) := by decide +kernel
theorem dX7_draw_96 : decode cX7_draw 96 = .ok (.aload_n 0, 1) := by decide +kernel
theorem dX7_draw_97 : decode cX7_draw 97 = .ok (.iload 4, 2) := by decide +kernel
theorem dX7_draw_99 : decode cX7_draw 99 = .ok (.invokevirtual 27, 3) := by decide +kernel
theorem dX7_draw_102 : decode cX7_draw 102 = .ok (.goto 27, 3) := by decide +kernel
theorem dX7_draw_105 : decode cX7_draw 105 = .ok (.aload_n 0, 1) := by decide +kernel
theorem dX7_draw_106 : decode cX7_draw 106 = .ok (.iload 4, 2) := by decide +kernel
theorem dX7_draw_108 : decode cX7_draw 108 = .ok (.invokevirtual 31, 3) := by decide +kernel
theorem dX7_draw_111 : decode cX7_draw 111 = .ok (.goto 18, 3) := by decide +kernel
theorem dX7_draw_114 : decode cX7_draw 114 = .ok (.aload_n 0, 1) := by decide +kernel
theorem dX7_draw_115 : decode cX7_draw 115 = .ok (.iload 4, 2) := by decide +kernel
theorem dX7_draw_117 : decode cX7_draw 117 = .ok (.invokevirtual 34, 3) := by decide +kernel
theorem dX7_draw_120 : decode cX7_draw 120 = .ok (.goto 9, 3) := by decide +kernel
theorem dX7_draw_123 : decode cX7_draw 123 = .ok (.aload_n 0, 1) := by decide +kernel
theorem dX7_draw_124 : decode cX7_draw 124 = .ok (.iload 4, 2) := by decide +kernel
theorem dX7_draw_126 : decode cX7_draw 126 = .ok (.invokevirtual 37, 3) := by decide +kernel
theorem dX7_draw_129 : decode cX7_draw 129 = .ok (.aload_n 0, 1) := by decide +kernel
theorem dX7_draw_130 : decode cX7_draw 130 = .ok (.getfield 40, 3) := by decide +kernel
theorem dX7_draw_133 : decode cX7_draw 133 = .ok (.ifCond .eq 8, 3) := by decide +kernel
theorem dX7_draw_136 : decode cX7_draw 136 = .ok (.bipush (-3), 2) := by decide +kernel
theorem dX7_draw_138 : decode cX7_draw 138 = .ok (.goto 10, 3) := by decide +kernel
theorem dX7_draw_141 : decode cX7_draw 141 = .ok (.aload_n 0, 1) := by decide +kernel
theorem dX7_draw_142 : decode cX7_draw 142 = .ok (.getfield 44, 3) := by decide +kernel
theorem dX7_draw_145 : decode cX7_draw 145 = .ok (.invokevirtual 48, 3) := by decide +kernel
theorem dX7_draw_148 : decode cX7_draw 148 = .ok (.ireturn, 1) := by decide +kernel
set_option maxRecDepth 20000 in
theorem ggX7_begin_X4_empty : GoodIn wsX7_begin wsX4_empty := goodIn_r _ [11, 12, 40, 41] (by decide +kernel) (by decide +kernel)
set_option maxRecDepth 20000 in
theorem gX7_begin_X4_empty : GoodIn wsX7_begin (wsV RX7 54 RX4 yX4_empty wsX4_empty) := goodIn_app (goodIn_of _ (by decide +kernel)) ggX7_begin_X4_empty
set_option maxRecDepth 20000 in
theorem ggX7_begin_X3_ranks : GoodIn wsX7_begin wsX3_ranks := goodIn_r _ [17, 18, 42, 43, 44, 45, 46, 47, 48, 49, 50] (by decide +kernel) (by decide +kernel)
set_option maxRecDepth 20000 in
theorem gX7_begin_X3_ranks : GoodIn wsX7_begin (wsV RX7 61 RX3 yX3_ranks wsX3_ranks) := goodIn_app (goodIn_of _ (by decide +kernel)) ggX7_begin_X3_ranks
set_option maxRecDepth 20000 in
theorem ggX7_begin_X3_rankOf : GoodIn wsX7_begin wsX3_rankOf := goodIn_r _ [22, 23, 24, 25, 26, 16, 27, 28, 29, 30, 31, 32, 33, 42, 43, 44, 45, 46, 47, 48, 49, 50] (by decide +kernel) (by decide +kernel)
set_option maxRecDepth 20000 in
theorem gX7_begin_X3_rankOf : GoodIn wsX7_begin (wsV RX7 66 RX3 yX3_rankOf wsX3_rankOf) := goodIn_app (goodIn_of _ (by decide +kernel)) ggX7_begin_X3_rankOf
theorem dX7_begin_0 : decode cX7_begin 0 = .ok (.aload_n 0, 1) := by decide +kernel
theorem dX7_begin_1 : decode cX7_begin 1 = .ok (.aload_n 1, 1) := by decide +kernel
theorem dX7_begin_2 : decode cX7_begin 2 = .ok (.putfield 44, 3) := by decide +kernel
theorem dX7_begin_5 : decode cX7_begin 5 = .ok (.aload_n 0, 1) := by decide +kernel
theorem dX7_begin_6 : decode cX7_begin 6 = .ok (.getfield 44, 3) := by decide +kernel
theorem dX7_begin_9 : decode cX7_begin 9 = .ok (.invokevirtual 54, 3) := by decide +kernel
theorem dX7_begin_12 : decode cX7_begin 12 = .ok (.aload_n 0, 1) := by decide +kernel
theorem dX7_begin_13 : decode cX7_begin 13 = .ok (.aload_n 2, 1) := by decide +kernel
theorem dX7_begin_14 : decode cX7_begin 14 = .ok (.putfield 57, 3) := by decide +kernel
theorem dX7_begin_17 : decode cX7_begin 17 = .ok (.aload_n 0, 1) := by decide +kernel
theorem dX7_begin_18 : decode cX7_begin 18 = .ok (.aload_n 0, 1) := by decide +kernel
theorem dX7_begin_19 : decode cX7_begin 19 = .ok (.getfield 57, 3) := by decide +kernel
theorem dX7_begin_22 : decode cX7_begin 22 = .ok (.invokevirtual 61, 3) := by decide +kernel
theorem dX7_begin_25 : decode cX7_begin 25 = .ok (.putfield 23, 3) := by decide +kernel
theorem dX7_begin_28 : decode cX7_begin 28 = .ok (.aload_n 0, 1) := by decide +kernel
theorem dX7_begin_29 : decode cX7_begin 29 = .ok (.aload_n 0, 1) := by decide +kernel
theorem dX7_begin_30 : decode cX7_begin 30 = .ok (.getfield 57, 3) := by decide +kernel
theorem dX7_begin_33 : decode cX7_begin 33 = .ok (.iload_n 3, 1) := by decide +kernel
theorem dX7_begin_34 : decode cX7_begin 34 = .ok (.invokevirtual 66, 3) := by decide +kernel
theorem dX7_begin_37 : decode cX7_begin 37 = .ok (.putfield 70, 3) := by decide +kernel
theorem dX7_begin_40 : decode cX7_begin 40 = .ok (.aload_n 0, 1) := by decide +kernel
theorem dX7_begin_41 : decode cX7_begin 41 = .ok (.iconst 0, 1) := by decide +kernel
theorem dX7_begin_42 : decode cX7_begin 42 = .ok (.putfield 73, 3) := by decide +kernel
theorem dX7_begin_45 : decode cX7_begin 45 = .ok (.aload_n 0, 1) := by decide +kernel
theorem dX7_begin_46 : decode cX7_begin 46 = .ok (.iconst 0, 1) := by decide +kernel
theorem dX7_begin_47 : decode cX7_begin 47 = .ok (.putfield 40, 3) := by decide +kernel
theorem dX7_begin_50 : decode cX7_begin 50 = .ok (.return_, 1) := by decide +kernel
set_option maxRecDepth 20000 in
theorem ggX7_ring_X7_ringFromRoot : GoodIn wsX7_ring wsX7_ringFromRoot := goodIn_r _ [5, 6, 7, 8, 9, 4, 10, 11, 12, 13, 14, 15, 16, 17, 18, 19, 20, 21, 22, 23, 24, 25, 26, 27, 28, 29, 30, 31, 32, 33, 34, 35, 36, 37, 38, 39, 40, 41, 42, 43, 44, 45, 46, 47, 48, 49, 50, 51, 52, 53, 54, 59, 60, 61, 62, 63, 64, 65, 66, 67, 68, 69, 70, 71, 72, 73, 74, 75] (by decide +kernel) (by decide +kernel)
set_option maxRecDepth 20000 in
theorem gX7_ring_X7_ringFromRoot : GoodIn wsX7_ring (wsV RX7 76 RX7 yX7_ringFromRoot wsX7_ringFromRoot) := goodIn_app (goodIn_of _ (by decide +kernel)) ggX7_ring_X7_ringFromRoot
set_option maxRecDepth 20000 in
theorem ggX7_ring_X7_ringOfAll : GoodIn wsX7_ring wsX7_ringOfAll := goodIn_r _ [58, 6, 12, 13, 14, 4, 15, 20, 21, 22, 23, 24, 25, 26, 27, 28, 29, 30, 31, 32, 33, 34, 35, 36, 37, 38, 39, 40, 41, 42, 43, 44, 45, 46, 47, 48, 49, 50, 51, 52, 53, 54, 59, 60, 61, 62, 63, 64, 65, 66, 67, 68, 69, 70, 71, 72, 73, 74, 75] (by decide +kernel) (by decide +kernel)
set_option maxRecDepth 20000 in
theorem gX7_ring_X7_ringOfAll : GoodIn wsX7_ring (wsV RX7 80 RX7 yX7_ringOfAll wsX7_ringOfAll) := goodIn_app (goodIn_of _ (by decide +kernel)) ggX7_ring_X7_ringOfAll
theorem dX7_ring_0 : decode cX7_ring 0 = .ok (.iload_n 1, 1) := by decide +kernel
theorem dX7_ring_1 : decode cX7_ring 1 = .ok (.tableswitch 60 0 2 #[27, 36, 45], 27) := by decide +kernel
theorem dX7_ring_28 : decode cX7_ring 28 = .ok (.aload_n 0, 1) := by decide +kernel
theorem dX7_ring_29 : decode cX7_ring 29 = .ok (.iconst 0, 1) := by decide +kernel
theorem dX7_ring_30 : decode cX7_ring 30 = .ok (.iconst 0, 1) := by decide +kernel
theorem dX7_ring_31 : decode cX7_ring 31 = .ok (.invokevirtual 76, 3) := by decide +kernel
theorem dX7_ring_34 : decode cX7_ring 34 = .ok (.goto 33, 3) := by decide +kernel
theorem dX7_ring_37 : decode cX7_ring 37 = .ok (.aload_n 0, 1) := by decide +kernel
theorem dX7_ring_38 : decode cX7_ring 38 = .ok (.iconst 1, 1) := by decide +kernel
theorem dX7_ring_39 : decode cX7_ring 39 = .ok (.iconst 1, 1) := by decide +kernel
theorem dX7_ring_40 : decode cX7_ring 40 = .ok (.invokevirtual 76, 3) := by decide +kernel
theorem dX7_ring_43 : decode cX7_ring 43 = .ok (.goto 24, 3) := by decide +kernel
theorem dX7_ring_46 : decode cX7_ring 46 = .ok (.aload_n 0, 1) := by decide +kernel
theorem dX7_ring_47 : decode cX7_ring 47 = .ok (.iconst 0, 1) := by decide +kernel
theorem dX7_ring_48 : decode cX7_ring 48 = .ok (.iconst 1, 1) := by decide +kernel
theorem dX7_ring_49 : decode cX7_ring 49 = .ok (.invokevirtual 80, 3) := by decide +kernel
theorem dX7_ring_52 : decode cX7_ring 52 = .ok (.aload_n 0, 1) := by decide +kernel
theorem dX7_ring_53 : decode cX7_ring 53 = .ok (.iconst 1, 1) := by decide +kernel
theorem dX7_ring_54 : decode cX7_ring 54 = .ok (.iconst 0, 1) := by decide +kernel
theorem dX7_ring_55 : decode cX7_ring 55 = .ok (.invokevirtual 80, 3) := by decide +kernel
theorem dX7_ring_58 : decode cX7_ring 58 = .ok (.goto 9, 3) := by decide +kernel
theorem dX7_ring_61 : decode cX7_ring 61 = .ok (.aload_n 0, 1) := by decide +kernel
theorem dX7_ring_62 : decode cX7_ring 62 = .ok (.iconst 0, 1) := by decide +kernel
theorem dX7_ring_63 : decode cX7_ring 63 = .ok (.iconst 0, 1) := by decide +kernel
theorem dX7_ring_64 : decode cX7_ring 64 = .ok (.invokevirtual 80, 3) := by decide +kernel
theorem dX7_ring_67 : decode cX7_ring 67 = .ok (.return_, 1) := by decide +kernel
set_option maxRecDepth 20000 in
theorem ggX7_ringFromRoot_X7_rankOfQ : GoodIn wsX7_ringFromRoot wsX7_rankOfQ := goodIn_r _ [6, 7, 8, 9, 10, 5, 11, 1, 51, 52, 53, 54, 55, 56] (by decide +kernel) (by decide +kernel)
set_option maxRecDepth 20000 in
theorem gX7_ringFromRoot_X7_rankOfQ : GoodIn wsX7_ringFromRoot (wsV RX7 83 RX7 yX7_rankOfQ wsX7_rankOfQ) := goodIn_app (goodIn_of _ (by decide +kernel)) ggX7_ringFromRoot_X7_rankOfQ
set_option maxRecDepth 20000 in
theorem ggX7_ringFromRoot_X7_giveAll : GoodIn wsX7_ringFromRoot wsX7_giveAll := goodIn_r _ [15, 1, 16, 17, 18, 5, 19, 20, 21, 22, 23, 24, 25, 26, 27, 28, 29, 30, 31, 32, 33, 34, 35, 36, 37, 38, 39, 40, 41, 42, 51, 52, 53, 54, 55, 56, 57, 58, 59, 60, 61, 62, 63, 64, 65, 66, 67] (by decide +kernel) (by decide +kernel)
set_option maxRecDepth 20000 in
theorem gX7_ringFromRoot_X7_giveAll : GoodIn wsX7_ringFromRoot (wsV RX7 86 RX7 yX7_giveAll wsX7_giveAll) := goodIn_app (goodIn_of _ (by decide +kernel)) ggX7_ringFromRoot_X7_giveAll
set_option maxRecDepth 20000 in
theorem ggX7_ringFromRoot_X7_endStep : GoodIn wsX7_ringFromRoot wsX7_endStep := goodIn_r _ [46, 22, 23, 47, 48, 49, 39, 50, 41, 42, 51, 52, 53, 54, 55, 56, 66, 67] (by decide +kernel) (by decide +kernel)
set_option maxRecDepth 20000 in
theorem gX7_ringFromRoot_X7_endStep : GoodIn wsX7_ringFromRoot (wsV RX7 90 RX7 yX7_endStep wsX7_endStep) := goodIn_app (goodIn_of _ (by decide +kernel)) ggX7_ringFromRoot_X7_endStep
theorem dX7_ringFromRoot_0 : decode cX7_ringFromRoot 0 = .ok (.iconst 0, 1) := by decide +kernel
theorem dX7_ringFromRoot_1 : decode cX7_ringFromRoot 1 = .ok (.istore_n 3, 1) := by decide +kernel
theorem dX7_ringFromRoot_2 : decode cX7_ringFromRoot 2 = .ok (.iload_n 3, 1) := by decide +kernel
theorem dX7_ringFromRoot_3 : decode cX7_ringFromRoot 3 = .ok (.aload_n 0, 1) := by decide +kernel
theorem dX7_ringFromRoot_4 : decode cX7_ringFromRoot 4 = .ok (.getfield 23, 3) := by decide +kernel
theorem dX7_ringFromRoot_7 : decode cX7_ringFromRoot 7 = .ok (.iconst 1, 1) := by decide +kernel
theorem dX7_ringFromRoot_8 : decode cX7_ringFromRoot 8 = .ok (.isub, 1) := by decide +kernel
theorem dX7_ringFromRoot_9 : decode cX7_ringFromRoot 9 = .ok (.if_icmp .ge 34, 3) := by decide +kernel
theorem dX7_ringFromRoot_12 : decode cX7_ringFromRoot 12 = .ok (.aload_n 0, 1) := by decide +kernel
theorem dX7_ringFromRoot_13 : decode cX7_ringFromRoot 13 = .ok (.aload_n 0, 1) := by decide +kernel
theorem dX7_ringFromRoot_14 : decode cX7_ringFromRoot 14 = .ok (.iload_n 3, 1) := by decide +kernel
theorem dX7_ringFromRoot_15 : decode cX7_ringFromRoot 15 = .ok (.iload_n 1, 1) := by decide +kernel
theorem dX7_ringFromRoot_16 : decode cX7_ringFromRoot 16 = .ok (.iadd, 1) := by decide +kernel
theorem dX7_ringFromRoot_17 : decode cX7_ringFromRoot 17 = .ok (.invokevirtual 83, 3) := by decide +kernel
theorem dX7_ringFromRoot_20 : decode cX7_ringFromRoot 20 = .ok (.aload_n 0, 1) := by decide +kernel
theorem dX7_ringFromRoot_21 : decode cX7_ringFromRoot 21 = .ok (.iload_n 3, 1) := by decide +kernel
theorem dX7_ringFromRoot_22 : decode cX7_ringFromRoot 22 = .ok (.iload_n 1, 1) := by decide +kernel
theorem dX7_ringFromRoot_23 : decode cX7_ringFromRoot 23 = .ok (.iadd, 1) := by decide +kernel
theorem dX7_ringFromRoot_24 : decode cX7_ringFromRoot 24 = .ok (.iconst 1, 1) := by decide +kernel
theorem dX7_ringFromRoot_25 : decode cX7_ringFromRoot 25 = .ok (.iadd, 1) := by decide +kernel
theorem dX7_ringFromRoot_26 : decode cX7_ringFromRoot 26 = .ok (.invokevirtual 83, 3) := by decide +kernel
theorem dX7_ringFromRoot_29 : decode cX7_ringFromRoot 29 = .ok (.iload_n 2, 1) := by decide +kernel
theorem dX7_ringFromRoot_30 : decode cX7_ringFromRoot 30 = .ok (.invokevirtual 86, 3) := by decide +kernel
theorem dX7_ringFromRoot_33 : decode cX7_ringFromRoot 33 = .ok (.aload_n 0, 1) := by decide +kernel
theorem dX7_ringFromRoot_34 : decode cX7_ringFromRoot 34 = .ok (.invokevirtual 90, 3) := by decide +kernel
theorem dX7_ringFromRoot_37 : decode cX7_ringFromRoot 37 = .ok (.iinc 3 1, 3) := by decide +kernel
theorem dX7_ringFromRoot_40 : decode cX7_ringFromRoot 40 = .ok (.goto (-38), 3) := by decide +kernel
theorem dX7_ringFromRoot_43 : decode cX7_ringFromRoot 43 = .ok (.return_, 1) := by decide +kernel
set_option maxRecDepth 20000 in
theorem ggX7_ringOfAll_X7_byM : GoodIn wsX7_ringOfAll wsX7_byM := goodIn_r _ [6, 1, 42, 43, 44, 45, 46, 47] (by decide +kernel) (by decide +kernel)
set_option maxRecDepth 20000 in
theorem gX7_ringOfAll_X7_byM : GoodIn wsX7_ringOfAll (wsV RX7 93 RX7 yX7_byM wsX7_byM) := goodIn_app (goodIn_of _ (by decide +kernel)) ggX7_ringOfAll_X7_byM
set_option maxRecDepth 20000 in
theorem ggX7_ringOfAll_X7_give : GoodIn wsX7_ringOfAll wsX7_give := goodIn_r _ [10, 11, 12, 13, 14, 15, 16, 17, 18, 19, 20, 21, 22, 23, 24, 25, 26, 27, 28, 29, 30, 31, 32, 33, 42, 43, 44, 45, 46, 47, 48, 49, 50, 51, 52, 53, 54, 55, 56, 57, 58] (by decide +kernel) (by decide +kernel)
set_option maxRecDepth 20000 in
theorem gX7_ringOfAll_X7_give : GoodIn wsX7_ringOfAll (wsV RX7 96 RX7 yX7_give wsX7_give) := goodIn_app (goodIn_of _ (by decide +kernel)) ggX7_ringOfAll_X7_give
set_option maxRecDepth 20000 in
theorem ggX7_ringOfAll_X7_endStep : GoodIn wsX7_ringOfAll wsX7_endStep := goodIn_r _ [37, 13, 14, 38, 39, 40, 30, 41, 32, 33, 42, 43, 44, 45, 46, 47, 57, 58] (by decide +kernel) (by decide +kernel)
set_option maxRecDepth 20000 in
theorem gX7_ringOfAll_X7_endStep : GoodIn wsX7_ringOfAll (wsV RX7 90 RX7 yX7_endStep wsX7_endStep) := goodIn_app (goodIn_of _ (by decide +kernel)) ggX7_ringOfAll_X7_endStep
theorem dX7_ringOfAll_0 : decode cX7_ringOfAll 0 = .ok (.iconst 0, 1) := by decide +kernel
theorem dX7_ringOfAll_1 : decode cX7_ringOfAll 1 = .ok (.istore_n 3, 1) := by decide +kernel
theorem dX7_ringOfAll_2 : decode cX7_ringOfAll 2 = .ok (.iload_n 3, 1) := by decide +kernel
theorem dX7_ringOfAll_3 : decode cX7_ringOfAll 3 = .ok (.aload_n 0, 1) := by decide +kernel
theorem dX7_ringOfAll_4 : decode cX7_ringOfAll 4 = .ok (.getfield 23, 3) := by decide +kernel
theorem dX7_ringOfAll_7 : decode cX7_ringOfAll 7 = .ok (.iconst 1, 1) := by decide +kernel
theorem dX7_ringOfAll_8 : decode cX7_ringOfAll 8 = .ok (.isub, 1) := by decide +kernel
theorem dX7_ringOfAll_9 : decode cX7_ringOfAll 9 = .ok (.if_icmp .ge 63, 3) := by decide +kernel
theorem dX7_ringOfAll_12 : decode cX7_ringOfAll 12 = .ok (.iconst 0, 1) := by decide +kernel
theorem dX7_ringOfAll_13 : decode cX7_ringOfAll 13 = .ok (.istore 4, 2) := by decide +kernel
theorem dX7_ringOfAll_15 : decode cX7_ringOfAll 15 = .ok (.iload 4, 2) := by decide +kernel
theorem dX7_ringOfAll_17 : decode cX7_ringOfAll 17 = .ok (.aload_n 0, 1) := by decide +kernel
theorem dX7_ringOfAll_18 : decode cX7_ringOfAll 18 = .ok (.getfield 23, 3) := by decide +kernel
theorem dX7_ringOfAll_21 : decode cX7_ringOfAll 21 = .ok (.if_icmp .ge 41, 3) := by decide +kernel
theorem dX7_ringOfAll_24 : decode cX7_ringOfAll 24 = .ok (.aload_n 0, 1) := by decide +kernel
theorem dX7_ringOfAll_25 : decode cX7_ringOfAll 25 = .ok (.iload 4, 2) := by decide +kernel
theorem dX7_ringOfAll_27 : decode cX7_ringOfAll 27 = .ok (.iload_n 1, 1) := by decide +kernel
theorem dX7_ringOfAll_28 : decode cX7_ringOfAll 28 = .ok (.iadd, 1) := by decide +kernel
theorem dX7_ringOfAll_29 : decode cX7_ringOfAll 29 = .ok (.iload_n 3, 1) := by decide +kernel
theorem dX7_ringOfAll_30 : decode cX7_ringOfAll 30 = .ok (.isub, 1) := by decide +kernel
theorem dX7_ringOfAll_31 : decode cX7_ringOfAll 31 = .ok (.invokevirtual 93, 3) := by decide +kernel
theorem dX7_ringOfAll_34 : decode cX7_ringOfAll 34 = .ok (.istore 5, 2) := by decide +kernel
theorem dX7_ringOfAll_36 : decode cX7_ringOfAll 36 = .ok (.aload_n 0, 1) := by decide +kernel
theorem dX7_ringOfAll_37 : decode cX7_ringOfAll 37 = .ok (.iload 4, 2) := by decide +kernel
theorem dX7_ringOfAll_39 : decode cX7_ringOfAll 39 = .ok (.aload_n 0, 1) := by decide +kernel
theorem dX7_ringOfAll_40 : decode cX7_ringOfAll 40 = .ok (.iload 4, 2) := by decide +kernel
theorem dX7_ringOfAll_42 : decode cX7_ringOfAll 42 = .ok (.iconst 1, 1) := by decide +kernel
theorem dX7_ringOfAll_43 : decode cX7_ringOfAll 43 = .ok (.iadd, 1) := by decide +kernel
theorem dX7_ringOfAll_44 : decode cX7_ringOfAll 44 = .ok (.invokevirtual 93, 3) := by decide +kernel
theorem dX7_ringOfAll_47 : decode cX7_ringOfAll 47 = .ok (.iload 5, 2) := by decide +kernel
theorem dX7_ringOfAll_49 : decode cX7_ringOfAll 49 = .ok (.iload 5, 2) := by decide +kernel
theorem dX7_ringOfAll_51 : decode cX7_ringOfAll 51 = .ok (.iconst 1, 1) := by decide +kernel
theorem dX7_ringOfAll_52 : decode cX7_ringOfAll 52 = .ok (.iload_n 2, 1) := by decide +kernel
theorem dX7_ringOfAll_53 : decode cX7_ringOfAll 53 = .ok (.invokevirtual 96, 3) := by decide +kernel
theorem dX7_ringOfAll_56 : decode cX7_ringOfAll 56 = .ok (.iinc 4 1, 3) := by decide +kernel
theorem dX7_ringOfAll_59 : decode cX7_ringOfAll 59 = .ok (.goto (-44), 3) := by decide +kernel
theorem dX7_ringOfAll_62 : decode cX7_ringOfAll 62 = .ok (.aload_n 0, 1) := by decide +kernel
theorem dX7_ringOfAll_63 : decode cX7_ringOfAll 63 = .ok (.invokevirtual 90, 3) := by decide +kernel
theorem dX7_ringOfAll_66 : decode cX7_ringOfAll 66 = .ok (.iinc 3 1, 3) := by decide +kernel
theorem dX7_ringOfAll_69 : decode cX7_ringOfAll 69 = .ok (.goto (-67), 3) := by decide +kernel
theorem dX7_ringOfAll_72 : decode cX7_ringOfAll 72 = .ok (.return_, 1) := by decide +kernel
set_option maxRecDepth 20000 in
theorem ggX7_tree_X7_treeStep : GoodIn wsX7_tree wsX7_treeStep := goodIn_r _ [6, 1, 7, 8, 9, 5, 10, 11, 12, 13, 14, 15, 16, 17, 18, 19, 20, 21, 22, 23, 24, 25, 26, 27, 28, 29, 30, 31, 32, 33, 34, 35, 36, 37, 38, 39, 40, 41, 42, 43, 44, 45, 46, 47, 48, 49, 50, 51, 52, 53, 54, 55, 56, 57, 58, 59, 60, 61, 62, 63, 64, 65, 66, 67, 68, 69, 70, 71] (by decide +kernel) (by decide +kernel)
set_option maxRecDepth 20000 in
theorem gX7_tree_X7_treeStep : GoodIn wsX7_tree (wsV RX7 100 RX7 yX7_treeStep wsX7_treeStep) := goodIn_app (goodIn_of _ (by decide +kernel)) ggX7_tree_X7_treeStep
theorem dX7_tree_0 : decode cX7_tree 0 = .ok (.iload_n 1, 1) := by decide +kernel
theorem dX7_tree_1 : decode cX7_tree 1 = .ok (.ifCond .eq 23, 3) := by decide +kernel
theorem dX7_tree_4 : decode cX7_tree 4 = .ok (.bipush 16, 2) := by decide +kernel
theorem dX7_tree_6 : decode cX7_tree 6 = .ok (.istore_n 2, 1) := by decide +kernel
theorem dX7_tree_7 : decode cX7_tree 7 = .ok (.iload_n 2, 1) := by decide +kernel
theorem dX7_tree_8 : decode cX7_tree 8 = .ok (.ifCond .le 16, 3) := by decide +kernel
theorem dX7_tree_11 : decode cX7_tree 11 = .ok (.aload_n 0, 1) := by decide +kernel
theorem dX7_tree_12 : decode cX7_tree 12 = .ok (.iload_n 2, 1) := by decide +kernel
theorem dX7_tree_13 : decode cX7_tree 13 = .ok (.iconst 1, 1) := by decide +kernel
theorem dX7_tree_14 : decode cX7_tree 14 = .ok (.invokevirtual 100, 3) := by decide +kernel
theorem dX7_tree_17 : decode cX7_tree 17 = .ok (.iload_n 2, 1) := by decide +kernel
theorem dX7_tree_18 : decode cX7_tree 18 = .ok (.iconst 1, 1) := by decide +kernel
theorem dX7_tree_19 : decode cX7_tree 19 = .ok (.ishr, 1) := by decide +kernel
theorem dX7_tree_20 : decode cX7_tree 20 = .ok (.istore_n 2, 1) := by decide +kernel
theorem dX7_tree_21 : decode cX7_tree 21 = .ok (.goto (-14), 3) := by decide +kernel
theorem dX7_tree_24 : decode cX7_tree 24 = .ok (.iload_n 1, 1) := by decide +kernel
theorem dX7_tree_25 : decode cX7_tree 25 = .ok (.iconst 1, 1) := by decide +kernel
theorem dX7_tree_26 : decode cX7_tree 26 = .ok (.if_icmp .eq 26, 3) := by decide +kernel
theorem dX7_tree_29 : decode cX7_tree 29 = .ok (.iconst 1, 1) := by decide +kernel
theorem dX7_tree_30 : decode cX7_tree 30 = .ok (.istore_n 2, 1) := by decide +kernel
theorem dX7_tree_31 : decode cX7_tree 31 = .ok (.iload_n 2, 1) := by decide +kernel
theorem dX7_tree_32 : decode cX7_tree 32 = .ok (.aload_n 0, 1) := by decide +kernel
theorem dX7_tree_33 : decode cX7_tree 33 = .ok (.getfield 23, 3) := by decide +kernel
theorem dX7_tree_36 : decode cX7_tree 36 = .ok (.if_icmp .ge 16, 3) := by decide +kernel
theorem dX7_tree_39 : decode cX7_tree 39 = .ok (.aload_n 0, 1) := by decide +kernel
theorem dX7_tree_40 : decode cX7_tree 40 = .ok (.iload_n 2, 1) := by decide +kernel
theorem dX7_tree_41 : decode cX7_tree 41 = .ok (.iconst 0, 1) := by decide +kernel
theorem dX7_tree_42 : decode cX7_tree 42 = .ok (.invokevirtual 100, 3) := by decide +kernel
theorem dX7_tree_45 : decode cX7_tree 45 = .ok (.iload_n 2, 1) := by decide +kernel
theorem dX7_tree_46 : decode cX7_tree 46 = .ok (.iconst 1, 1) := by decide +kernel
theorem dX7_tree_47 : decode cX7_tree 47 = .ok (.ishl, 1) := by decide +kernel
theorem dX7_tree_48 : decode cX7_tree 48 = .ok (.istore_n 2, 1) := by decide +kernel
theorem dX7_tree_49 : decode cX7_tree 49 = .ok (.goto (-18), 3) := by decide +kernel
theorem dX7_tree_52 : decode cX7_tree 52 = .ok (.return_, 1) := by decide +kernel
set_option maxRecDepth 20000 in
theorem ggX7_treeStep_X7_rankOfQ : GoodIn wsX7_treeStep wsX7_rankOfQ := goodIn_r _ [6, 7, 8, 9, 10, 5, 11, 1, 51, 52, 53, 54, 55, 56] (by decide +kernel) (by decide +kernel)
set_option maxRecDepth 20000 in
theorem gX7_treeStep_X7_rankOfQ : GoodIn wsX7_treeStep (wsV RX7 83 RX7 yX7_rankOfQ wsX7_rankOfQ) := goodIn_app (goodIn_of _ (by decide +kernel)) ggX7_treeStep_X7_rankOfQ
set_option maxRecDepth 20000 in
theorem ggX7_treeStep_X7_giveAll : GoodIn wsX7_treeStep wsX7_giveAll := goodIn_r _ [15, 1, 16, 17, 18, 5, 19, 20, 21, 22, 23, 24, 25, 26, 27, 28, 29, 30, 31, 32, 33, 34, 35, 36, 37, 38, 39, 40, 41, 42, 51, 52, 53, 54, 55, 56, 57, 58, 59, 60, 61, 62, 63, 64, 65, 66, 67] (by decide +kernel) (by decide +kernel)
set_option maxRecDepth 20000 in
theorem gX7_treeStep_X7_giveAll : GoodIn wsX7_treeStep (wsV RX7 86 RX7 yX7_giveAll wsX7_giveAll) := goodIn_app (goodIn_of _ (by decide +kernel)) ggX7_treeStep_X7_giveAll
set_option maxRecDepth 20000 in
theorem ggX7_treeStep_X7_endStep : GoodIn wsX7_treeStep wsX7_endStep := goodIn_r _ [46, 22, 23, 47, 48, 49, 39, 50, 41, 42, 51, 52, 53, 54, 55, 56, 66, 67] (by decide +kernel) (by decide +kernel)
set_option maxRecDepth 20000 in
theorem gX7_treeStep_X7_endStep : GoodIn wsX7_treeStep (wsV RX7 90 RX7 yX7_endStep wsX7_endStep) := goodIn_app (goodIn_of _ (by decide +kernel)) ggX7_treeStep_X7_endStep
theorem dX7_treeStep_0 : decode cX7_treeStep 0 = .ok (.iconst 0, 1) := by decide +kernel
theorem dX7_treeStep_1 : decode cX7_treeStep 1 = .ok (.istore_n 3, 1) := by decide +kernel
theorem dX7_treeStep_2 : decode cX7_treeStep 2 = .ok (.iload_n 3, 1) := by decide +kernel
theorem dX7_treeStep_3 : decode cX7_treeStep 3 = .ok (.iload_n 1, 1) := by decide +kernel
theorem dX7_treeStep_4 : decode cX7_treeStep 4 = .ok (.if_icmp .ge 60, 3) := by decide +kernel
theorem dX7_treeStep_7 : decode cX7_treeStep 7 = .ok (.iload_n 3, 1) := by decide +kernel
theorem dX7_treeStep_8 : decode cX7_treeStep 8 = .ok (.iload_n 1, 1) := by decide +kernel
theorem dX7_treeStep_9 : decode cX7_treeStep 9 = .ok (.iadd, 1) := by decide +kernel
theorem dX7_treeStep_10 : decode cX7_treeStep 10 = .ok (.aload_n 0, 1) := by decide +kernel
theorem dX7_treeStep_11 : decode cX7_treeStep 11 = .ok (.getfield 23, 3) := by decide +kernel
theorem dX7_treeStep_14 : decode cX7_treeStep 14 = .ok (.if_icmp .ge 50, 3) := by decide +kernel
theorem dX7_treeStep_17 : decode cX7_treeStep 17 = .ok (.iload_n 2, 1) := by decide +kernel
theorem dX7_treeStep_18 : decode cX7_treeStep 18 = .ok (.ifCond .eq 23, 3) := by decide +kernel
theorem dX7_treeStep_21 : decode cX7_treeStep 21 = .ok (.aload_n 0, 1) := by decide +kernel
theorem dX7_treeStep_22 : decode cX7_treeStep 22 = .ok (.aload_n 0, 1) := by decide +kernel
theorem dX7_treeStep_23 : decode cX7_treeStep 23 = .ok (.iload_n 3, 1) := by decide +kernel
theorem dX7_treeStep_24 : decode cX7_treeStep 24 = .ok (.iload_n 1, 1) := by decide +kernel
theorem dX7_treeStep_25 : decode cX7_treeStep 25 = .ok (.iadd, 1) := by decide +kernel
theorem dX7_treeStep_26 : decode cX7_treeStep 26 = .ok (.invokevirtual 83, 3) := by decide +kernel
theorem dX7_treeStep_29 : decode cX7_treeStep 29 = .ok (.aload_n 0, 1) := by decide +kernel
theorem dX7_treeStep_30 : decode cX7_treeStep 30 = .ok (.iload_n 3, 1) := by decide +kernel
theorem dX7_treeStep_31 : decode cX7_treeStep 31 = .ok (.invokevirtual 83, 3) := by decide +kernel
theorem dX7_treeStep_34 : decode cX7_treeStep 34 = .ok (.iconst 1, 1) := by decide +kernel
theorem dX7_treeStep_35 : decode cX7_treeStep 35 = .ok (.invokevirtual 86, 3) := by decide +kernel
theorem dX7_treeStep_38 : decode cX7_treeStep 38 = .ok (.goto 20, 3) := by decide +kernel
theorem dX7_treeStep_41 : decode cX7_treeStep 41 = .ok (.aload_n 0, 1) := by decide +kernel
theorem dX7_treeStep_42 : decode cX7_treeStep 42 = .ok (.aload_n 0, 1) := by decide +kernel
theorem dX7_treeStep_43 : decode cX7_treeStep 43 = .ok (.iload_n 3, 1) := by decide +kernel
theorem dX7_treeStep_44 : decode cX7_treeStep 44 = .ok (.invokevirtual 83, 3) := by decide +kernel
theorem dX7_treeStep_47 : decode cX7_treeStep 47 = .ok (.aload_n 0, 1) := by decide +kernel
theorem dX7_treeStep_48 : decode cX7_treeStep 48 = .ok (.iload_n 3, 1) := by decide +kernel
theorem dX7_treeStep_49 : decode cX7_treeStep 49 = .ok (.iload_n 1, 1) := by decide +kernel
theorem dX7_treeStep_50 : decode cX7_treeStep 50 = .ok (.iadd, 1) := by decide +kernel
theorem dX7_treeStep_51 : decode cX7_treeStep 51 = .ok (.invokevirtual 83, 3) := by decide +kernel
theorem dX7_treeStep_54 : decode cX7_treeStep 54 = .ok (.iconst 0, 1) := by decide +kernel
theorem dX7_treeStep_55 : decode cX7_treeStep 55 = .ok (.invokevirtual 86, 3) := by decide +kernel
theorem dX7_treeStep_58 : decode cX7_treeStep 58 = .ok (.iinc 3 1, 3) := by decide +kernel
theorem dX7_treeStep_61 : decode cX7_treeStep 61 = .ok (.goto (-59), 3) := by decide +kernel
theorem dX7_treeStep_64 : decode cX7_treeStep 64 = .ok (.aload_n 0, 1) := by decide +kernel
theorem dX7_treeStep_65 : decode cX7_treeStep 65 = .ok (.invokevirtual 90, 3) := by decide +kernel
theorem dX7_treeStep_68 : decode cX7_treeStep 68 = .ok (.return_, 1) := by decide +kernel
set_option maxRecDepth 20000 in
theorem ggX7_halving_X7_giveAll : GoodIn wsX7_halving wsX7_giveAll := goodIn_r _ [6, 1, 7, 8, 9, 5, 10, 11, 12, 13, 14, 15, 16, 17, 18, 19, 20, 21, 22, 23, 24, 25, 26, 27, 28, 29, 30, 31, 32, 33, 42, 43, 44, 45, 46, 47, 48, 49, 50, 51, 52, 53, 54, 55, 56, 57, 58] (by decide +kernel) (by decide +kernel)
set_option maxRecDepth 20000 in
theorem gX7_halving_X7_giveAll : GoodIn wsX7_halving (wsV RX7 86 RX7 yX7_giveAll wsX7_giveAll) := goodIn_app (goodIn_of _ (by decide +kernel)) ggX7_halving_X7_giveAll
set_option maxRecDepth 20000 in
theorem ggX7_halving_X7_give : GoodIn wsX7_halving wsX7_give := goodIn_r _ [10, 11, 12, 13, 14, 15, 16, 17, 18, 19, 20, 21, 22, 23, 24, 25, 26, 27, 28, 29, 30, 31, 32, 33, 42, 43, 44, 45, 46, 47, 48, 49, 50, 51, 52, 53, 54, 55, 56, 57, 58] (by decide +kernel) (by decide +kernel)
set_option maxRecDepth 20000 in
theorem gX7_halving_X7_give : GoodIn wsX7_halving (wsV RX7 96 RX7 yX7_give wsX7_give) := goodIn_app (goodIn_of _ (by decide +kernel)) ggX7_halving_X7_give
set_option maxRecDepth 20000 in
theorem ggX7_halving_X7_endStep : GoodIn wsX7_halving wsX7_endStep := goodIn_r _ [37, 13, 14, 38, 39, 40, 30, 41, 32, 33, 42, 43, 44, 45, 46, 47, 57, 58] (by decide +kernel) (by decide +kernel)
set_option maxRecDepth 20000 in
theorem gX7_halving_X7_endStep : GoodIn wsX7_halving (wsV RX7 90 RX7 yX7_endStep wsX7_endStep) := goodIn_app (goodIn_of _ (by decide +kernel)) ggX7_halving_X7_endStep
theorem dX7_halving_0 : decode cX7_halving 0 = .ok (.iconst 1, 1) := by decide +kernel
theorem dX7_halving_1 : decode cX7_halving 1 = .ok (.istore_n 2, 1) := by decide +kernel
theorem dX7_halving_2 : decode cX7_halving 2 = .ok (.iload_n 2, 1) := by decide +kernel
theorem dX7_halving_3 : decode cX7_halving 3 = .ok (.aload_n 0, 1) := by decide +kernel
theorem dX7_halving_4 : decode cX7_halving 4 = .ok (.getfield 23, 3) := by decide +kernel
theorem dX7_halving_7 : decode cX7_halving 7 = .ok (.if_icmp .ge 70, 3) := by decide +kernel
theorem dX7_halving_10 : decode cX7_halving 10 = .ok (.iconst 0, 1) := by decide +kernel
theorem dX7_halving_11 : decode cX7_halving 11 = .ok (.istore_n 3, 1) := by decide +kernel
theorem dX7_halving_12 : decode cX7_halving 12 = .ok (.iload_n 3, 1) := by decide +kernel
theorem dX7_halving_13 : decode cX7_halving 13 = .ok (.aload_n 0, 1) := by decide +kernel
theorem dX7_halving_14 : decode cX7_halving 14 = .ok (.getfield 23, 3) := by decide +kernel
theorem dX7_halving_17 : decode cX7_halving 17 = .ok (.if_icmp .ge 49, 3) := by decide +kernel
theorem dX7_halving_20 : decode cX7_halving 20 = .ok (.iload_n 1, 1) := by decide +kernel
theorem dX7_halving_21 : decode cX7_halving 21 = .ok (.iconst 2, 1) := by decide +kernel
theorem dX7_halving_22 : decode cX7_halving 22 = .ok (.if_icmp .ne 15, 3) := by decide +kernel
theorem dX7_halving_25 : decode cX7_halving 25 = .ok (.aload_n 0, 1) := by decide +kernel
theorem dX7_halving_26 : decode cX7_halving 26 = .ok (.iload_n 3, 1) := by decide +kernel
theorem dX7_halving_27 : decode cX7_halving 27 = .ok (.iload_n 3, 1) := by decide +kernel
theorem dX7_halving_28 : decode cX7_halving 28 = .ok (.iload_n 2, 1) := by decide +kernel
theorem dX7_halving_29 : decode cX7_halving 29 = .ok (.ixor, 1) := by decide +kernel
theorem dX7_halving_30 : decode cX7_halving 30 = .ok (.iconst 1, 1) := by decide +kernel
theorem dX7_halving_31 : decode cX7_halving 31 = .ok (.invokevirtual 86, 3) := by decide +kernel
theorem dX7_halving_34 : decode cX7_halving 34 = .ok (.goto 26, 3) := by decide +kernel
theorem dX7_halving_37 : decode cX7_halving 37 = .ok (.iload_n 3, 1) := by decide +kernel
theorem dX7_halving_38 : decode cX7_halving 38 = .ok (.iload_n 3, 1) := by decide +kernel
theorem dX7_halving_39 : decode cX7_halving 39 = .ok (.iload_n 2, 1) := by decide +kernel
theorem dX7_halving_40 : decode cX7_halving 40 = .ok (.iconst 1, 1) := by decide +kernel
theorem dX7_halving_41 : decode cX7_halving 41 = .ok (.isub, 1) := by decide +kernel
theorem dX7_halving_42 : decode cX7_halving 42 = .ok (.iand, 1) := by decide +kernel
theorem dX7_halving_43 : decode cX7_halving 43 = .ok (.isub, 1) := by decide +kernel
theorem dX7_halving_44 : decode cX7_halving 44 = .ok (.istore 4, 2) := by decide +kernel
theorem dX7_halving_46 : decode cX7_halving 46 = .ok (.aload_n 0, 1) := by decide +kernel
theorem dX7_halving_47 : decode cX7_halving 47 = .ok (.iload_n 3, 1) := by decide +kernel
theorem dX7_halving_48 : decode cX7_halving 48 = .ok (.iload_n 3, 1) := by decide +kernel
theorem dX7_halving_49 : decode cX7_halving 49 = .ok (.iload_n 2, 1) := by decide +kernel
theorem dX7_halving_50 : decode cX7_halving 50 = .ok (.ixor, 1) := by decide +kernel
theorem dX7_halving_51 : decode cX7_halving 51 = .ok (.iload 4, 2) := by decide +kernel
theorem dX7_halving_53 : decode cX7_halving 53 = .ok (.iload 4, 2) := by decide +kernel
theorem dX7_halving_55 : decode cX7_halving 55 = .ok (.iload_n 2, 1) := by decide +kernel
theorem dX7_halving_56 : decode cX7_halving 56 = .ok (.iconst 0, 1) := by decide +kernel
theorem dX7_halving_57 : decode cX7_halving 57 = .ok (.invokevirtual 96, 3) := by decide +kernel
theorem dX7_halving_60 : decode cX7_halving 60 = .ok (.iinc 3 1, 3) := by decide +kernel
theorem dX7_halving_63 : decode cX7_halving 63 = .ok (.goto (-51), 3) := by decide +kernel
theorem dX7_halving_66 : decode cX7_halving 66 = .ok (.aload_n 0, 1) := by decide +kernel
theorem dX7_halving_67 : decode cX7_halving 67 = .ok (.invokevirtual 90, 3) := by decide +kernel
theorem dX7_halving_70 : decode cX7_halving 70 = .ok (.iload_n 2, 1) := by decide +kernel
theorem dX7_halving_71 : decode cX7_halving 71 = .ok (.iconst 1, 1) := by decide +kernel
theorem dX7_halving_72 : decode cX7_halving 72 = .ok (.ishl, 1) := by decide +kernel
theorem dX7_halving_73 : decode cX7_halving 73 = .ok (.istore_n 2, 1) := by decide +kernel
theorem dX7_halving_74 : decode cX7_halving 74 = .ok (.goto (-72), 3) := by decide +kernel
theorem dX7_halving_77 : decode cX7_halving 77 = .ok (.return_, 1) := by decide +kernel
set_option maxRecDepth 20000 in
theorem ggX7_direct_X7_directWithRoot : GoodIn wsX7_direct wsX7_directWithRoot := goodIn_r _ [5, 6, 7, 8, 9, 10, 4, 11, 12, 13, 14, 15, 16, 17, 18, 19, 20, 21, 22, 23, 24, 25, 26, 27, 28, 29, 30, 31, 32, 33, 34, 35, 36, 37, 38, 39, 40, 41, 42, 43, 44, 45, 46, 47, 48, 49, 50, 51, 52, 53, 54, 63, 64, 65, 66, 67, 68, 69, 70, 71, 72, 73, 74, 75, 76, 77, 78, 79] (by decide +kernel) (by decide +kernel)
set_option maxRecDepth 20000 in
theorem gX7_direct_X7_directWithRoot : GoodIn wsX7_direct (wsV RX7 103 RX7 yX7_directWithRoot wsX7_directWithRoot) := goodIn_app (goodIn_of _ (by decide +kernel)) ggX7_direct_X7_directWithRoot
set_option maxRecDepth 20000 in
theorem ggX7_direct_X7_directGather : GoodIn wsX7_direct wsX7_directGather := goodIn_r _ [58, 6, 12, 13, 14, 4, 15, 20, 21, 22, 23, 24, 25, 26, 27, 28, 29, 30, 31, 32, 33, 34, 35, 36, 37, 38, 39, 40, 41, 42, 43, 44, 45, 46, 47, 48, 49, 50, 51, 52, 53, 54, 63, 64, 65, 66, 67, 68, 69, 70, 71, 72, 73, 74, 75, 76, 77, 78, 79] (by decide +kernel) (by decide +kernel)
set_option maxRecDepth 20000 in
theorem gX7_direct_X7_directGather : GoodIn wsX7_direct (wsV RX7 107 RX7 yX7_directGather wsX7_directGather) := goodIn_app (goodIn_of _ (by decide +kernel)) ggX7_direct_X7_directGather
set_option maxRecDepth 20000 in
theorem ggX7_direct_X7_directTurn : GoodIn wsX7_direct wsX7_directTurn := goodIn_r _ [62, 6, 12, 13, 14, 4, 15, 20, 21, 22, 23, 24, 25, 26, 27, 28, 29, 30, 31, 32, 33, 34, 35, 36, 37, 38, 39, 40, 41, 42, 43, 44, 45, 46, 47, 48, 49, 50, 51, 52, 53, 54, 63, 64, 65, 66, 67, 68, 69, 70, 71, 72, 73, 74, 75, 76, 77, 78, 79] (by decide +kernel) (by decide +kernel)
set_option maxRecDepth 20000 in
theorem gX7_direct_X7_directTurn : GoodIn wsX7_direct (wsV RX7 110 RX7 yX7_directTurn wsX7_directTurn) := goodIn_app (goodIn_of _ (by decide +kernel)) ggX7_direct_X7_directTurn
theorem dX7_direct_0 : decode cX7_direct 0 = .ok (.iload_n 1, 1) := by decide +kernel
theorem dX7_direct_1 : decode cX7_direct 1 = .ok (.tableswitch 54 0 3 #[31, 39, 54, 47], 31) := by decide +kernel
theorem dX7_direct_32 : decode cX7_direct 32 = .ok (.aload_n 0, 1) := by decide +kernel
theorem dX7_direct_33 : decode cX7_direct 33 = .ok (.iconst 0, 1) := by decide +kernel
theorem dX7_direct_34 : decode cX7_direct 34 = .ok (.invokevirtual 103, 3) := by decide +kernel
theorem dX7_direct_37 : decode cX7_direct 37 = .ok (.goto 22, 3) := by decide +kernel
theorem dX7_direct_40 : decode cX7_direct 40 = .ok (.aload_n 0, 1) := by decide +kernel
theorem dX7_direct_41 : decode cX7_direct 41 = .ok (.iconst 1, 1) := by decide +kernel
theorem dX7_direct_42 : decode cX7_direct 42 = .ok (.invokevirtual 103, 3) := by decide +kernel
theorem dX7_direct_45 : decode cX7_direct 45 = .ok (.goto 14, 3) := by decide +kernel
theorem dX7_direct_48 : decode cX7_direct 48 = .ok (.aload_n 0, 1) := by decide +kernel
theorem dX7_direct_49 : decode cX7_direct 49 = .ok (.invokevirtual 107, 3) := by decide +kernel
theorem dX7_direct_52 : decode cX7_direct 52 = .ok (.goto 7, 3) := by decide +kernel
theorem dX7_direct_55 : decode cX7_direct 55 = .ok (.aload_n 0, 1) := by decide +kernel
theorem dX7_direct_56 : decode cX7_direct 56 = .ok (.invokevirtual 110, 3) := by decide +kernel
theorem dX7_direct_59 : decode cX7_direct 59 = .ok (.return_, 1) := by decide +kernel
set_option maxRecDepth 20000 in
theorem ggX7_directWithRoot_X7_rankOfQ : GoodIn wsX7_directWithRoot wsX7_rankOfQ := goodIn_r _ [7, 2, 8, 9, 10, 6, 11, 1, 51, 52, 53, 54, 55, 56] (by decide +kernel) (by decide +kernel)
set_option maxRecDepth 20000 in
theorem gX7_directWithRoot_X7_rankOfQ : GoodIn wsX7_directWithRoot (wsV RX7 83 RX7 yX7_rankOfQ wsX7_rankOfQ) := goodIn_app (goodIn_of _ (by decide +kernel)) ggX7_directWithRoot_X7_rankOfQ
set_option maxRecDepth 20000 in
theorem ggX7_directWithRoot_X7_giveAll : GoodIn wsX7_directWithRoot wsX7_giveAll := goodIn_r _ [15, 1, 16, 17, 18, 6, 19, 20, 21, 22, 23, 24, 25, 26, 27, 28, 29, 30, 31, 32, 33, 34, 35, 36, 37, 38, 39, 40, 41, 42, 51, 52, 53, 54, 55, 56, 57, 58, 59, 60, 61, 62, 63, 64, 65, 66, 67] (by decide +kernel) (by decide +kernel)
set_option maxRecDepth 20000 in
theorem gX7_directWithRoot_X7_giveAll : GoodIn wsX7_directWithRoot (wsV RX7 86 RX7 yX7_giveAll wsX7_giveAll) := goodIn_app (goodIn_of _ (by decide +kernel)) ggX7_directWithRoot_X7_giveAll
set_option maxRecDepth 20000 in
theorem ggX7_directWithRoot_X7_endStep : GoodIn wsX7_directWithRoot wsX7_endStep := goodIn_r _ [46, 22, 23, 47, 48, 49, 39, 50, 41, 42, 51, 52, 53, 54, 55, 56, 66, 67] (by decide +kernel) (by decide +kernel)
set_option maxRecDepth 20000 in
theorem gX7_directWithRoot_X7_endStep : GoodIn wsX7_directWithRoot (wsV RX7 90 RX7 yX7_endStep wsX7_endStep) := goodIn_app (goodIn_of _ (by decide +kernel)) ggX7_directWithRoot_X7_endStep
theorem dX7_directWithRoot_0 : decode cX7_directWithRoot 0 = .ok (.iconst 1, 1) := by decide +kernel
theorem dX7_directWithRoot_1 : decode cX7_directWithRoot 1 = .ok (.istore_n 2, 1) := by decide +kernel
theorem dX7_directWithRoot_2 : decode cX7_directWithRoot 2 = .ok (.iload_n 2, 1) := by decide +kernel
theorem dX7_directWithRoot_3 : decode cX7_directWithRoot 3 = .ok (.aload_n 0, 1) := by decide +kernel
theorem dX7_directWithRoot_4 : decode cX7_directWithRoot 4 = .ok (.getfield 23, 3) := by decide +kernel
theorem dX7_directWithRoot_7 : decode cX7_directWithRoot 7 = .ok (.if_icmp .ge 48, 3) := by decide +kernel
theorem dX7_directWithRoot_10 : decode cX7_directWithRoot 10 = .ok (.iload_n 1, 1) := by decide +kernel
theorem dX7_directWithRoot_11 : decode cX7_directWithRoot 11 = .ok (.ifCond .eq 20, 3) := by decide +kernel
theorem dX7_directWithRoot_14 : decode cX7_directWithRoot 14 = .ok (.aload_n 0, 1) := by decide +kernel
theorem dX7_directWithRoot_15 : decode cX7_directWithRoot 15 = .ok (.aload_n 0, 1) := by decide +kernel
theorem dX7_directWithRoot_16 : decode cX7_directWithRoot 16 = .ok (.iload_n 2, 1) := by decide +kernel
theorem dX7_directWithRoot_17 : decode cX7_directWithRoot 17 = .ok (.invokevirtual 83, 3) := by decide +kernel
theorem dX7_directWithRoot_20 : decode cX7_directWithRoot 20 = .ok (.aload_n 0, 1) := by decide +kernel
theorem dX7_directWithRoot_21 : decode cX7_directWithRoot 21 = .ok (.getfield 70, 3) := by decide +kernel
theorem dX7_directWithRoot_24 : decode cX7_directWithRoot 24 = .ok (.iconst 1, 1) := by decide +kernel
theorem dX7_directWithRoot_25 : decode cX7_directWithRoot 25 = .ok (.invokevirtual 86, 3) := by decide +kernel
theorem dX7_directWithRoot_28 : decode cX7_directWithRoot 28 = .ok (.goto 17, 3) := by decide +kernel
theorem dX7_directWithRoot_31 : decode cX7_directWithRoot 31 = .ok (.aload_n 0, 1) := by decide +kernel
theorem dX7_directWithRoot_32 : decode cX7_directWithRoot 32 = .ok (.aload_n 0, 1) := by decide +kernel
theorem dX7_directWithRoot_33 : decode cX7_directWithRoot 33 = .ok (.getfield 70, 3) := by decide +kernel
theorem dX7_directWithRoot_36 : decode cX7_directWithRoot 36 = .ok (.aload_n 0, 1) := by decide +kernel
theorem dX7_directWithRoot_37 : decode cX7_directWithRoot 37 = .ok (.iload_n 2, 1) := by decide +kernel
theorem dX7_directWithRoot_38 : decode cX7_directWithRoot 38 = .ok (.invokevirtual 83, 3) := by decide +kernel
theorem dX7_directWithRoot_41 : decode cX7_directWithRoot 41 = .ok (.iconst 0, 1) := by decide +kernel
theorem dX7_directWithRoot_42 : decode cX7_directWithRoot 42 = .ok (.invokevirtual 86, 3) := by decide +kernel
theorem dX7_directWithRoot_45 : decode cX7_directWithRoot 45 = .ok (.aload_n 0, 1) := by decide +kernel
theorem dX7_directWithRoot_46 : decode cX7_directWithRoot 46 = .ok (.invokevirtual 90, 3) := by decide +kernel
theorem dX7_directWithRoot_49 : decode cX7_directWithRoot 49 = .ok (.iinc 2 1, 3) := by decide +kernel
theorem dX7_directWithRoot_52 : decode cX7_directWithRoot 52 = .ok (.goto (-50), 3) := by decide +kernel
theorem dX7_directWithRoot_55 : decode cX7_directWithRoot 55 = .ok (.return_, 1) := by decide +kernel
set_option maxRecDepth 20000 in
theorem ggX7_directGather_X7_byM : GoodIn wsX7_directGather wsX7_byM := goodIn_r _ [6, 1, 42, 43, 44, 45, 46, 47] (by decide +kernel) (by decide +kernel)
set_option maxRecDepth 20000 in
theorem gX7_directGather_X7_byM : GoodIn wsX7_directGather (wsV RX7 93 RX7 yX7_byM wsX7_byM) := goodIn_app (goodIn_of _ (by decide +kernel)) ggX7_directGather_X7_byM
set_option maxRecDepth 20000 in
theorem ggX7_directGather_X7_give : GoodIn wsX7_directGather wsX7_give := goodIn_r _ [10, 11, 12, 13, 14, 15, 16, 17, 18, 19, 20, 21, 22, 23, 24, 25, 26, 27, 28, 29, 30, 31, 32, 33, 42, 43, 44, 45, 46, 47, 48, 49, 50, 51, 52, 53, 54, 55, 56, 57, 58] (by decide +kernel) (by decide +kernel)
set_option maxRecDepth 20000 in
theorem gX7_directGather_X7_give : GoodIn wsX7_directGather (wsV RX7 96 RX7 yX7_give wsX7_give) := goodIn_app (goodIn_of _ (by decide +kernel)) ggX7_directGather_X7_give
set_option maxRecDepth 20000 in
theorem ggX7_directGather_X7_endStep : GoodIn wsX7_directGather wsX7_endStep := goodIn_r _ [37, 13, 14, 38, 39, 40, 30, 41, 32, 33, 42, 43, 44, 45, 46, 47, 57, 58] (by decide +kernel) (by decide +kernel)
set_option maxRecDepth 20000 in
theorem gX7_directGather_X7_endStep : GoodIn wsX7_directGather (wsV RX7 90 RX7 yX7_endStep wsX7_endStep) := goodIn_app (goodIn_of _ (by decide +kernel)) ggX7_directGather_X7_endStep
theorem dX7_directGather_0 : decode cX7_directGather 0 = .ok (.iconst 1, 1) := by decide +kernel
theorem dX7_directGather_1 : decode cX7_directGather 1 = .ok (.istore_n 1, 1) := by decide +kernel
theorem dX7_directGather_2 : decode cX7_directGather 2 = .ok (.iload_n 1, 1) := by decide +kernel
theorem dX7_directGather_3 : decode cX7_directGather 3 = .ok (.aload_n 0, 1) := by decide +kernel
theorem dX7_directGather_4 : decode cX7_directGather 4 = .ok (.getfield 23, 3) := by decide +kernel
theorem dX7_directGather_7 : decode cX7_directGather 7 = .ok (.if_icmp .ge 45, 3) := by decide +kernel
theorem dX7_directGather_10 : decode cX7_directGather 10 = .ok (.iconst 0, 1) := by decide +kernel
theorem dX7_directGather_11 : decode cX7_directGather 11 = .ok (.istore_n 2, 1) := by decide +kernel
theorem dX7_directGather_12 : decode cX7_directGather 12 = .ok (.iload_n 2, 1) := by decide +kernel
theorem dX7_directGather_13 : decode cX7_directGather 13 = .ok (.aload_n 0, 1) := by decide +kernel
theorem dX7_directGather_14 : decode cX7_directGather 14 = .ok (.getfield 23, 3) := by decide +kernel
theorem dX7_directGather_17 : decode cX7_directGather 17 = .ok (.if_icmp .ge 25, 3) := by decide +kernel
theorem dX7_directGather_20 : decode cX7_directGather 20 = .ok (.aload_n 0, 1) := by decide +kernel
theorem dX7_directGather_21 : decode cX7_directGather 21 = .ok (.iload_n 2, 1) := by decide +kernel
theorem dX7_directGather_22 : decode cX7_directGather 22 = .ok (.aload_n 0, 1) := by decide +kernel
theorem dX7_directGather_23 : decode cX7_directGather 23 = .ok (.iload_n 2, 1) := by decide +kernel
theorem dX7_directGather_24 : decode cX7_directGather 24 = .ok (.iload_n 1, 1) := by decide +kernel
theorem dX7_directGather_25 : decode cX7_directGather 25 = .ok (.iadd, 1) := by decide +kernel
theorem dX7_directGather_26 : decode cX7_directGather 26 = .ok (.invokevirtual 93, 3) := by decide +kernel
theorem dX7_directGather_29 : decode cX7_directGather 29 = .ok (.iload_n 2, 1) := by decide +kernel
theorem dX7_directGather_30 : decode cX7_directGather 30 = .ok (.iload_n 2, 1) := by decide +kernel
theorem dX7_directGather_31 : decode cX7_directGather 31 = .ok (.iconst 1, 1) := by decide +kernel
theorem dX7_directGather_32 : decode cX7_directGather 32 = .ok (.iconst 0, 1) := by decide +kernel
theorem dX7_directGather_33 : decode cX7_directGather 33 = .ok (.invokevirtual 96, 3) := by decide +kernel
theorem dX7_directGather_36 : decode cX7_directGather 36 = .ok (.iinc 2 1, 3) := by decide +kernel
theorem dX7_directGather_39 : decode cX7_directGather 39 = .ok (.goto (-27), 3) := by decide +kernel
theorem dX7_directGather_42 : decode cX7_directGather 42 = .ok (.aload_n 0, 1) := by decide +kernel
theorem dX7_directGather_43 : decode cX7_directGather 43 = .ok (.invokevirtual 90, 3) := by decide +kernel
theorem dX7_directGather_46 : decode cX7_directGather 46 = .ok (.iinc 1 1, 3) := by decide +kernel
theorem dX7_directGather_49 : decode cX7_directGather 49 = .ok (.goto (-47), 3) := by decide +kernel
theorem dX7_directGather_52 : decode cX7_directGather 52 = .ok (.return_, 1) := by decide +kernel
set_option maxRecDepth 20000 in
theorem ggX7_directTurn_X7_byM : GoodIn wsX7_directTurn wsX7_byM := goodIn_r _ [6, 1, 42, 43, 44, 45, 46, 47] (by decide +kernel) (by decide +kernel)
set_option maxRecDepth 20000 in
theorem gX7_directTurn_X7_byM : GoodIn wsX7_directTurn (wsV RX7 93 RX7 yX7_byM wsX7_byM) := goodIn_app (goodIn_of _ (by decide +kernel)) ggX7_directTurn_X7_byM
set_option maxRecDepth 20000 in
theorem ggX7_directTurn_X7_give : GoodIn wsX7_directTurn wsX7_give := goodIn_r _ [10, 11, 12, 13, 14, 15, 16, 17, 18, 19, 20, 21, 22, 23, 24, 25, 26, 27, 28, 29, 30, 31, 32, 33, 42, 43, 44, 45, 46, 47, 48, 49, 50, 51, 52, 53, 54, 55, 56, 57, 58] (by decide +kernel) (by decide +kernel)
set_option maxRecDepth 20000 in
theorem gX7_directTurn_X7_give : GoodIn wsX7_directTurn (wsV RX7 96 RX7 yX7_give wsX7_give) := goodIn_app (goodIn_of _ (by decide +kernel)) ggX7_directTurn_X7_give
set_option maxRecDepth 20000 in
theorem ggX7_directTurn_X7_endStep : GoodIn wsX7_directTurn wsX7_endStep := goodIn_r _ [37, 13, 14, 38, 39, 40, 30, 41, 32, 33, 42, 43, 44, 45, 46, 47, 57, 58] (by decide +kernel) (by decide +kernel)
set_option maxRecDepth 20000 in
theorem gX7_directTurn_X7_endStep : GoodIn wsX7_directTurn (wsV RX7 90 RX7 yX7_endStep wsX7_endStep) := goodIn_app (goodIn_of _ (by decide +kernel)) ggX7_directTurn_X7_endStep
theorem dX7_directTurn_0 : decode cX7_directTurn 0 = .ok (.iconst 0, 1) := by decide +kernel
theorem dX7_directTurn_1 : decode cX7_directTurn 1 = .ok (.istore_n 1, 1) := by decide +kernel
theorem dX7_directTurn_2 : decode cX7_directTurn 2 = .ok (.iload_n 1, 1) := by decide +kernel
theorem dX7_directTurn_3 : decode cX7_directTurn 3 = .ok (.aload_n 0, 1) := by decide +kernel
theorem dX7_directTurn_4 : decode cX7_directTurn 4 = .ok (.getfield 23, 3) := by decide +kernel
theorem dX7_directTurn_7 : decode cX7_directTurn 7 = .ok (.if_icmp .ge 52, 3) := by decide +kernel
theorem dX7_directTurn_10 : decode cX7_directTurn 10 = .ok (.iconst 0, 1) := by decide +kernel
theorem dX7_directTurn_11 : decode cX7_directTurn 11 = .ok (.istore_n 2, 1) := by decide +kernel
theorem dX7_directTurn_12 : decode cX7_directTurn 12 = .ok (.iload_n 2, 1) := by decide +kernel
theorem dX7_directTurn_13 : decode cX7_directTurn 13 = .ok (.aload_n 0, 1) := by decide +kernel
theorem dX7_directTurn_14 : decode cX7_directTurn 14 = .ok (.getfield 23, 3) := by decide +kernel
theorem dX7_directTurn_17 : decode cX7_directTurn 17 = .ok (.if_icmp .ge 32, 3) := by decide +kernel
theorem dX7_directTurn_20 : decode cX7_directTurn 20 = .ok (.aload_n 0, 1) := by decide +kernel
theorem dX7_directTurn_21 : decode cX7_directTurn 21 = .ok (.iload_n 1, 1) := by decide +kernel
theorem dX7_directTurn_22 : decode cX7_directTurn 22 = .ok (.iload_n 2, 1) := by decide +kernel
theorem dX7_directTurn_23 : decode cX7_directTurn 23 = .ok (.isub, 1) := by decide +kernel
theorem dX7_directTurn_24 : decode cX7_directTurn 24 = .ok (.invokevirtual 93, 3) := by decide +kernel
theorem dX7_directTurn_27 : decode cX7_directTurn 27 = .ok (.istore_n 3, 1) := by decide +kernel
theorem dX7_directTurn_28 : decode cX7_directTurn 28 = .ok (.iload_n 3, 1) := by decide +kernel
theorem dX7_directTurn_29 : decode cX7_directTurn 29 = .ok (.iload_n 2, 1) := by decide +kernel
theorem dX7_directTurn_30 : decode cX7_directTurn 30 = .ok (.if_icmp .eq 13, 3) := by decide +kernel
theorem dX7_directTurn_33 : decode cX7_directTurn 33 = .ok (.aload_n 0, 1) := by decide +kernel
theorem dX7_directTurn_34 : decode cX7_directTurn 34 = .ok (.iload_n 2, 1) := by decide +kernel
theorem dX7_directTurn_35 : decode cX7_directTurn 35 = .ok (.iload_n 3, 1) := by decide +kernel
theorem dX7_directTurn_36 : decode cX7_directTurn 36 = .ok (.iload_n 3, 1) := by decide +kernel
theorem dX7_directTurn_37 : decode cX7_directTurn 37 = .ok (.iload_n 2, 1) := by decide +kernel
theorem dX7_directTurn_38 : decode cX7_directTurn 38 = .ok (.iconst 1, 1) := by decide +kernel
theorem dX7_directTurn_39 : decode cX7_directTurn 39 = .ok (.iconst 0, 1) := by decide +kernel
theorem dX7_directTurn_40 : decode cX7_directTurn 40 = .ok (.invokevirtual 96, 3) := by decide +kernel
theorem dX7_directTurn_43 : decode cX7_directTurn 43 = .ok (.iinc 2 1, 3) := by decide +kernel
theorem dX7_directTurn_46 : decode cX7_directTurn 46 = .ok (.goto (-34), 3) := by decide +kernel
theorem dX7_directTurn_49 : decode cX7_directTurn 49 = .ok (.aload_n 0, 1) := by decide +kernel
theorem dX7_directTurn_50 : decode cX7_directTurn 50 = .ok (.invokevirtual 90, 3) := by decide +kernel
theorem dX7_directTurn_53 : decode cX7_directTurn 53 = .ok (.iinc 1 1, 3) := by decide +kernel
theorem dX7_directTurn_56 : decode cX7_directTurn 56 = .ok (.goto (-54), 3) := by decide +kernel
theorem dX7_directTurn_59 : decode cX7_directTurn 59 = .ok (.return_, 1) := by decide +kernel
set_option maxRecDepth 20000 in
theorem ggX7_giveAll_X7_give : GoodIn wsX7_giveAll wsX7_give := goodIn_r _ [6, 7, 8, 9, 10, 11, 12, 13, 14, 15, 16, 17, 18, 19, 20, 21, 22, 23, 24, 25, 26, 27, 28, 29, 30, 31, 32, 33, 34, 35, 36, 37, 38, 39, 40, 41, 42, 43, 44, 45, 46] (by decide +kernel) (by decide +kernel)
set_option maxRecDepth 20000 in
theorem gX7_giveAll_X7_give : GoodIn wsX7_giveAll (wsV RX7 96 RX7 yX7_give wsX7_give) := goodIn_app (goodIn_of _ (by decide +kernel)) ggX7_giveAll_X7_give
theorem dX7_giveAll_0 : decode cX7_giveAll 0 = .ok (.aload_n 0, 1) := by decide +kernel
theorem dX7_giveAll_1 : decode cX7_giveAll 1 = .ok (.iload_n 1, 1) := by decide +kernel
theorem dX7_giveAll_2 : decode cX7_giveAll 2 = .ok (.iload_n 2, 1) := by decide +kernel
theorem dX7_giveAll_3 : decode cX7_giveAll 3 = .ok (.iconst 0, 1) := by decide +kernel
theorem dX7_giveAll_4 : decode cX7_giveAll 4 = .ok (.iconst 0, 1) := by decide +kernel
theorem dX7_giveAll_5 : decode cX7_giveAll 5 = .ok (.aload_n 0, 1) := by decide +kernel
theorem dX7_giveAll_6 : decode cX7_giveAll 6 = .ok (.getfield 23, 3) := by decide +kernel
theorem dX7_giveAll_9 : decode cX7_giveAll 9 = .ok (.iload_n 3, 1) := by decide +kernel
theorem dX7_giveAll_10 : decode cX7_giveAll 10 = .ok (.invokevirtual 96, 3) := by decide +kernel
theorem dX7_giveAll_13 : decode cX7_giveAll 13 = .ok (.return_, 1) := by decide +kernel
set_option maxRecDepth 20000 in
theorem ggX7_give_X3_hostOf : GoodIn wsX7_give wsX3_hostOf := goodIn_r _ [9, 10, 11, 30, 31, 32, 33, 34, 35, 36, 37, 38] (by decide +kernel) (by decide +kernel)
set_option maxRecDepth 20000 in
theorem gX7_give_X3_hostOf : GoodIn wsX7_give (wsV RX7 113 RX3 yX3_hostOf wsX3_hostOf) := goodIn_app (goodIn_of _ (by decide +kernel)) ggX7_give_X3_hostOf
set_option maxRecDepth 20000 in
theorem ggX7_give_X3_hasLine : GoodIn wsX7_give wsX3_hasLine := goodIn_r _ [15, 16, 30, 31, 32, 33, 34, 35, 36, 37, 38] (by decide +kernel) (by decide +kernel)
set_option maxRecDepth 20000 in
theorem gX7_give_X3_hasLine : GoodIn wsX7_give (wsV RX7 116 RX3 yX3_hasLine wsX3_hasLine) := goodIn_app (goodIn_of _ (by decide +kernel)) ggX7_give_X3_hasLine
set_option maxRecDepth 20000 in
theorem ggX7_give_X4_place : GoodIn wsX7_give wsX4_place := goodIn_r _ [21, 22, 23, 39, 40] (by decide +kernel) (by decide +kernel)
set_option maxRecDepth 20000 in
theorem gX7_give_X4_place : GoodIn wsX7_give (wsV RX7 120 RX4 yX4_place wsX4_place) := goodIn_app (goodIn_of _ (by decide +kernel)) ggX7_give_X4_place
theorem dX7_give_0 : decode cX7_give 0 = .ok (.aload_n 0, 1) := by decide +kernel
theorem dX7_give_1 : decode cX7_give 1 = .ok (.getfield 57, 3) := by decide +kernel
theorem dX7_give_4 : decode cX7_give 4 = .ok (.iload_n 1, 1) := by decide +kernel
theorem dX7_give_5 : decode cX7_give 5 = .ok (.invokevirtual 113, 3) := by decide +kernel
theorem dX7_give_8 : decode cX7_give 8 = .ok (.istore 7, 2) := by decide +kernel
theorem dX7_give_10 : decode cX7_give 10 = .ok (.aload_n 0, 1) := by decide +kernel
theorem dX7_give_11 : decode cX7_give 11 = .ok (.getfield 57, 3) := by decide +kernel
theorem dX7_give_14 : decode cX7_give 14 = .ok (.iload_n 2, 1) := by decide +kernel
theorem dX7_give_15 : decode cX7_give 15 = .ok (.invokevirtual 113, 3) := by decide +kernel
theorem dX7_give_18 : decode cX7_give 18 = .ok (.istore 8, 2) := by decide +kernel
theorem dX7_give_20 : decode cX7_give 20 = .ok (.aload_n 0, 1) := by decide +kernel
theorem dX7_give_21 : decode cX7_give 21 = .ok (.getfield 57, 3) := by decide +kernel
theorem dX7_give_24 : decode cX7_give 24 = .ok (.iload 7, 2) := by decide +kernel
theorem dX7_give_26 : decode cX7_give 26 = .ok (.iload 8, 2) := by decide +kernel
theorem dX7_give_28 : decode cX7_give 28 = .ok (.invokevirtual 116, 3) := by decide +kernel
theorem dX7_give_31 : decode cX7_give 31 = .ok (.ifCond .ne 9, 3) := by decide +kernel
theorem dX7_give_34 : decode cX7_give 34 = .ok (.aload_n 0, 1) := by decide +kernel
theorem dX7_give_35 : decode cX7_give 35 = .ok (.iconst 1, 1) := by decide +kernel
theorem dX7_give_36 : decode cX7_give 36 = .ok (.putfield 40, 3) := by decide +kernel
theorem dX7_give_39 : decode cX7_give 39 = .ok (.return_, 1) := by decide +kernel
theorem dX7_give_40 : decode cX7_give 40 = .ok (.iconst 0, 1) := by decide +kernel
theorem dX7_give_41 : decode cX7_give 41 = .ok (.istore 9, 2) := by decide +kernel
theorem dX7_give_43 : decode cX7_give 43 = .ok (.iload 9, 2) := by decide +kernel
theorem dX7_give_45 : decode cX7_give 45 = .ok (.iload 5, 2) := by decide +kernel
theorem dX7_give_47 : decode cX7_give 47 = .ok (.if_icmp .ge 35, 3) := by decide +kernel
theorem dX7_give_50 : decode cX7_give 50 = .ok (.aload_n 0, 1) := by decide +kernel
theorem dX7_give_51 : decode cX7_give 51 = .ok (.getfield 44, 3) := by decide +kernel
theorem dX7_give_54 : decode cX7_give 54 = .ok (.aload_n 0, 1) := by decide +kernel
theorem dX7_give_55 : decode cX7_give 55 = .ok (.getfield 73, 3) := by decide +kernel
theorem dX7_give_58 : decode cX7_give 58 = .ok (.iload 7, 2) := by decide +kernel
theorem dX7_give_60 : decode cX7_give 60 = .ok (.iload 8, 2) := by decide +kernel
theorem dX7_give_62 : decode cX7_give 62 = .ok (.iload_n 3, 1) := by decide +kernel
theorem dX7_give_63 : decode cX7_give 63 = .ok (.iload 9, 2) := by decide +kernel
theorem dX7_give_65 : decode cX7_give 65 = .ok (.iadd, 1) := by decide +kernel
theorem dX7_give_66 : decode cX7_give 66 = .ok (.iload 4, 2) := by decide +kernel
theorem dX7_give_68 : decode cX7_give 68 = .ok (.iload 9, 2) := by decide +kernel
theorem dX7_give_70 : decode cX7_give 70 = .ok (.iadd, 1) := by decide +kernel
theorem dX7_give_71 : decode cX7_give 71 = .ok (.iload 6, 2) := by decide +kernel
theorem dX7_give_73 : decode cX7_give 73 = .ok (.invokevirtual 120, 3) := by decide +kernel
theorem dX7_give_76 : decode cX7_give 76 = .ok (.iinc 9 1, 3) := by decide +kernel
theorem dX7_give_79 : decode cX7_give 79 = .ok (.goto (-36), 3) := by decide +kernel
theorem dX7_give_82 : decode cX7_give 82 = .ok (.return_, 1) := by decide +kernel
set_option maxRecDepth 20000 in
theorem ggX7_endStep_X4_steps : GoodIn wsX7_endStep wsX4_steps := goodIn_r _ [7, 8, 9, 16, 17] (by decide +kernel) (by decide +kernel)
set_option maxRecDepth 20000 in
theorem gX7_endStep_X4_steps : GoodIn wsX7_endStep (wsV RX7 48 RX4 yX4_steps wsX4_steps) := goodIn_app (goodIn_of _ (by decide +kernel)) ggX7_endStep_X4_steps
theorem dX7_endStep_0 : decode cX7_endStep 0 = .ok (.aload_n 0, 1) := by decide +kernel
theorem dX7_endStep_1 : decode cX7_endStep 1 = .ok (.aload_n 0, 1) := by decide +kernel
theorem dX7_endStep_2 : decode cX7_endStep 2 = .ok (.getfield 44, 3) := by decide +kernel
theorem dX7_endStep_5 : decode cX7_endStep 5 = .ok (.invokevirtual 48, 3) := by decide +kernel
theorem dX7_endStep_8 : decode cX7_endStep 8 = .ok (.putfield 73, 3) := by decide +kernel
theorem dX7_endStep_11 : decode cX7_endStep 11 = .ok (.return_, 1) := by decide +kernel
set_option maxRecDepth 20000 in
theorem ggX7_rankOfQ_X7_byM : GoodIn wsX7_rankOfQ wsX7_byM := goodIn_r _ [6, 7, 8, 9, 10, 11, 12, 13] (by decide +kernel) (by decide +kernel)
set_option maxRecDepth 20000 in
theorem gX7_rankOfQ_X7_byM : GoodIn wsX7_rankOfQ (wsV RX7 93 RX7 yX7_byM wsX7_byM) := goodIn_app (goodIn_of _ (by decide +kernel)) ggX7_rankOfQ_X7_byM
theorem dX7_rankOfQ_0 : decode cX7_rankOfQ 0 = .ok (.aload_n 0, 1) := by decide +kernel
theorem dX7_rankOfQ_1 : decode cX7_rankOfQ 1 = .ok (.aload_n 0, 1) := by decide +kernel
theorem dX7_rankOfQ_2 : decode cX7_rankOfQ 2 = .ok (.iload_n 1, 1) := by decide +kernel
theorem dX7_rankOfQ_3 : decode cX7_rankOfQ 3 = .ok (.invokevirtual 93, 3) := by decide +kernel
theorem dX7_rankOfQ_6 : decode cX7_rankOfQ 6 = .ok (.aload_n 0, 1) := by decide +kernel
theorem dX7_rankOfQ_7 : decode cX7_rankOfQ 7 = .ok (.getfield 70, 3) := by decide +kernel
theorem dX7_rankOfQ_10 : decode cX7_rankOfQ 10 = .ok (.iadd, 1) := by decide +kernel
theorem dX7_rankOfQ_11 : decode cX7_rankOfQ 11 = .ok (.invokevirtual 93, 3) := by decide +kernel
theorem dX7_rankOfQ_14 : decode cX7_rankOfQ 14 = .ok (.ireturn, 1) := by decide +kernel
theorem dX7_byM_0 : decode cX7_byM 0 = .ok (.iload_n 1, 1) := by decide +kernel
theorem dX7_byM_1 : decode cX7_byM 1 = .ok (.ifCond .ge 10, 3) := by decide +kernel
theorem dX7_byM_4 : decode cX7_byM 4 = .ok (.iload_n 1, 1) := by decide +kernel
theorem dX7_byM_5 : decode cX7_byM 5 = .ok (.aload_n 0, 1) := by decide +kernel
theorem dX7_byM_6 : decode cX7_byM 6 = .ok (.getfield 23, 3) := by decide +kernel
theorem dX7_byM_9 : decode cX7_byM 9 = .ok (.iadd, 1) := by decide +kernel
theorem dX7_byM_10 : decode cX7_byM 10 = .ok (.ireturn, 1) := by decide +kernel
theorem dX7_byM_11 : decode cX7_byM 11 = .ok (.iload_n 1, 1) := by decide +kernel
theorem dX7_byM_12 : decode cX7_byM 12 = .ok (.aload_n 0, 1) := by decide +kernel
theorem dX7_byM_13 : decode cX7_byM 13 = .ok (.getfield 23, 3) := by decide +kernel
theorem dX7_byM_16 : decode cX7_byM 16 = .ok (.if_icmp .lt 12, 3) := by decide +kernel
theorem dX7_byM_19 : decode cX7_byM 19 = .ok (.iload_n 1, 1) := by decide +kernel
theorem dX7_byM_20 : decode cX7_byM 20 = .ok (.aload_n 0, 1) := by decide +kernel
theorem dX7_byM_21 : decode cX7_byM 21 = .ok (.getfield 23, 3) := by decide +kernel
theorem dX7_byM_24 : decode cX7_byM 24 = .ok (.isub, 1) := by decide +kernel
theorem dX7_byM_25 : decode cX7_byM 25 = .ok (.goto 4, 3) := by decide +kernel
theorem dX7_byM_28 : decode cX7_byM 28 = .ok (.iload_n 1, 1) := by decide +kernel
theorem dX7_byM_29 : decode cX7_byM 29 = .ok (.ireturn, 1) := by decide +kernel
