set_option maxRecDepth 20000 in
theorem ggX9_init_X9_unlink : GoodIn wsX9_init wsX9_unlink := goodIn_r _ [27, 9, 28, 29, 30, 31, 32, 33, 34, 35, 36, 37, 38, 39, 40, 41, 42, 43, 44, 45, 46] (by decide +kernel) (by decide +kernel)
set_option maxRecDepth 20000 in
theorem gX9_init_X9_unlink : GoodIn wsX9_init (wsV RX9 59 RX9 yX9_unlink wsX9_unlink) := goodIn_app (goodIn_of _ (by decide +kernel)) ggX9_init_X9_unlink
theorem dX9_init_0 : decode cX9_init 0 = .ok (.aload_n 0, 1) := by decide +kernel
theorem dX9_init_1 : decode cX9_init 1 = .ok (.invokespecial 3, 3) := by decide +kernel
theorem dX9_init_4 : decode cX9_init 4 = .ok (.aload_n 0, 1) := by decide +kernel
theorem dX9_init_5 : decode cX9_init 5 = .ok (.iconst 2, 1) := by decide +kernel
theorem dX9_init_6 : decode cX9_init 6 = .ok (.putfield 9, 3) := by decide +kernel
theorem dX9_init_9 : decode cX9_init 9 = .ok (.aload_n 0, 1) := by decide +kernel
theorem dX9_init_10 : decode cX9_init 10 = .ok (.bipush 16, 2) := by decide +kernel
theorem dX9_init_12 : decode cX9_init 12 = .ok (.newarray .boolean, 2) := by decide +kernel
theorem dX9_init_14 : decode cX9_init 14 = .ok (.putfield 13, 3) := by decide +kernel
theorem dX9_init_17 : decode cX9_init 17 = .ok (.aload_n 0, 1) := by decide +kernel
theorem dX9_init_18 : decode cX9_init 18 = .ok (.bipush 16, 2) := by decide +kernel
theorem dX9_init_20 : decode cX9_init 20 = .ok (.newarray .int, 2) := by decide +kernel
theorem dX9_init_22 : decode cX9_init 22 = .ok (.putfield 17, 3) := by decide +kernel
theorem dX9_init_25 : decode cX9_init 25 = .ok (.aload_n 0, 1) := by decide +kernel
theorem dX9_init_26 : decode cX9_init 26 = .ok (.sipush 256, 3) := by decide +kernel
theorem dX9_init_29 : decode cX9_init 29 = .ok (.newarray .int, 2) := by decide +kernel
theorem dX9_init_31 : decode cX9_init 31 = .ok (.putfield 21, 3) := by decide +kernel
theorem dX9_init_34 : decode cX9_init 34 = .ok (.aload_n 0, 1) := by decide +kernel
theorem dX9_init_35 : decode cX9_init 35 = .ok (.sipush 256, 3) := by decide +kernel
theorem dX9_init_38 : decode cX9_init 38 = .ok (.newarray .int, 2) := by decide +kernel
theorem dX9_init_40 : decode cX9_init 40 = .ok (.putfield 24, 3) := by decide +kernel
theorem dX9_init_43 : decode cX9_init 43 = .ok (.aload_n 0, 1) := by decide +kernel
theorem dX9_init_44 : decode cX9_init 44 = .ok (.sipush 256, 3) := by decide +kernel
theorem dX9_init_47 : decode cX9_init 47 = .ok (.newarray .int, 2) := by decide +kernel
theorem dX9_init_49 : decode cX9_init 49 = .ok (.putfield 27, 3) := by decide +kernel
theorem dX9_init_52 : decode cX9_init 52 = .ok (.aload_n 0, 1) := by decide +kernel
theorem dX9_init_53 : decode cX9_init 53 = .ok (.sipush 7200, 3) := by decide +kernel
theorem dX9_init_56 : decode cX9_init 56 = .ok (.newarray .int, 2) := by decide +kernel
theorem dX9_init_58 : decode cX9_init 58 = .ok (.putfield 30, 3) := by decide +kernel
theorem dX9_init_61 : decode cX9_init 61 = .ok (.aload_n 0, 1) := by decide +kernel
theorem dX9_init_62 : decode cX9_init 62 = .ok (.sipush 7200, 3) := by decide +kernel
theorem dX9_init_65 : decode cX9_init 65 = .ok (.newarray .int, 2) := by decide +kernel
theorem dX9_init_67 : decode cX9_init 67 = .ok (.putfield 33, 3) := by decide +kernel
theorem dX9_init_70 : decode cX9_init 70 = .ok (.aload_n 0, 1) := by decide +kernel
theorem dX9_init_71 : decode cX9_init 71 = .ok (.ldc 36, 2) := by decide +kernel
theorem dX9_init_73 : decode cX9_init 73 = .ok (.newarray .byte, 2) := by decide +kernel
theorem dX9_init_75 : decode cX9_init 75 = .ok (.putfield 37, 3) := by decide +kernel
theorem dX9_init_78 : decode cX9_init 78 = .ok (.aload_n 0, 1) := by decide +kernel
theorem dX9_init_79 : decode cX9_init 79 = .ok (.ldc 36, 2) := by decide +kernel
theorem dX9_init_81 : decode cX9_init 81 = .ok (.newarray .byte, 2) := by decide +kernel
theorem dX9_init_83 : decode cX9_init 83 = .ok (.putfield 41, 3) := by decide +kernel
theorem dX9_init_86 : decode cX9_init 86 = .ok (.aload_n 0, 1) := by decide +kernel
theorem dX9_init_87 : decode cX9_init 87 = .ok (.sipush 256, 3) := by decide +kernel
theorem dX9_init_90 : decode cX9_init 90 = .ok (.newarray .int, 2) := by decide +kernel
theorem dX9_init_92 : decode cX9_init 92 = .ok (.putfield 44, 3) := by decide +kernel
theorem dX9_init_95 : decode cX9_init 95 = .ok (.aload_n 0, 1) := by decide +kernel
theorem dX9_init_96 : decode cX9_init 96 = .ok (.bipush 16, 2) := by decide +kernel
theorem dX9_init_98 : decode cX9_init 98 = .ok (.newarray .int, 2) := by decide +kernel
theorem dX9_init_100 : decode cX9_init 100 = .ok (.putfield 47, 3) := by decide +kernel
theorem dX9_init_103 : decode cX9_init 103 = .ok (.aload_n 0, 1) := by decide +kernel
theorem dX9_init_104 : decode cX9_init 104 = .ok (.bipush 16, 2) := by decide +kernel
theorem dX9_init_106 : decode cX9_init 106 = .ok (.newarray .int, 2) := by decide +kernel
theorem dX9_init_108 : decode cX9_init 108 = .ok (.putfield 50, 3) := by decide +kernel
theorem dX9_init_111 : decode cX9_init 111 = .ok (.aload_n 0, 1) := by decide +kernel
theorem dX9_init_112 : decode cX9_init 112 = .ok (.sipush 256, 3) := by decide +kernel
theorem dX9_init_115 : decode cX9_init 115 = .ok (.newarray .boolean, 2) := by decide +kernel
theorem dX9_init_117 : decode cX9_init 117 = .ok (.putfield 53, 3) := by decide +kernel
theorem dX9_init_120 : decode cX9_init 120 = .ok (.aload_n 0, 1) := by decide +kernel
theorem dX9_init_121 : decode cX9_init 121 = .ok (.sipush 256, 3) := by decide +kernel
theorem dX9_init_124 : decode cX9_init 124 = .ok (.newarray .boolean, 2) := by decide +kernel
theorem dX9_init_126 : decode cX9_init 126 = .ok (.putfield 56, 3) := by decide +kernel
theorem dX9_init_129 : decode cX9_init 129 = .ok (.aload_n 0, 1) := by decide +kernel
theorem dX9_init_130 : decode cX9_init 130 = .ok (.invokevirtual 59, 3) := by decide +kernel
theorem dX9_init_133 : decode cX9_init 133 = .ok (.return_, 1) := by decide +kernel
theorem dX9_thrown_0 : decode cX9_thrown 0 = .ok (.aload_n 0, 1) := by decide +kernel
theorem dX9_thrown_1 : decode cX9_thrown 1 = .ok (.getfield 62, 3) := by decide +kernel
theorem dX9_thrown_4 : decode cX9_thrown 4 = .ok (.ireturn, 1) := by decide +kernel
theorem dX9_in_0 : decode cX9_in 0 = .ok (.iload_n 0, 1) := by decide +kernel
theorem dX9_in_1 : decode cX9_in 1 = .ok (.iload_n 1, 1) := by decide +kernel
theorem dX9_in_2 : decode cX9_in 2 = .ok (.if_icmp .lt 12, 3) := by decide +kernel
theorem dX9_in_5 : decode cX9_in 5 = .ok (.iload_n 0, 1) := by decide +kernel
theorem dX9_in_6 : decode cX9_in 6 = .ok (.iload_n 2, 1) := by decide +kernel
theorem dX9_in_7 : decode cX9_in 7 = .ok (.if_icmp .gt 7, 3) := by decide +kernel
theorem dX9_in_10 : decode cX9_in 10 = .ok (.iconst 1, 1) := by decide +kernel
theorem dX9_in_11 : decode cX9_in 11 = .ok (.goto 4, 3) := by decide +kernel
theorem dX9_in_14 : decode cX9_in 14 = .ok (.iconst 0, 1) := by decide +kernel
theorem dX9_in_15 : decode cX9_in 15 = .ok (.ireturn, 1) := by decide +kernel
theorem dX9_unlink_0 : decode cX9_unlink 0 = .ok (.iconst 0, 1) := by decide +kernel
theorem dX9_unlink_1 : decode cX9_unlink 1 = .ok (.istore_n 1, 1) := by decide +kernel
theorem dX9_unlink_2 : decode cX9_unlink 2 = .ok (.iload_n 1, 1) := by decide +kernel
theorem dX9_unlink_3 : decode cX9_unlink 3 = .ok (.sipush 256, 3) := by decide +kernel
theorem dX9_unlink_6 : decode cX9_unlink 6 = .ok (.if_icmp .ge 16, 3) := by decide +kernel
theorem dX9_unlink_9 : decode cX9_unlink 9 = .ok (.aload_n 0, 1) := by decide +kernel
theorem dX9_unlink_10 : decode cX9_unlink 10 = .ok (.getfield 21, 3) := by decide +kernel
theorem dX9_unlink_13 : decode cX9_unlink 13 = .ok (.iload_n 1, 1) := by decide +kernel
theorem dX9_unlink_14 : decode cX9_unlink 14 = .ok (.iconst (-1), 1) := by decide +kernel
theorem dX9_unlink_15 : decode cX9_unlink 15 = .ok (.iastore, 1) := by decide +kernel
theorem dX9_unlink_16 : decode cX9_unlink 16 = .ok (.iinc 1 1, 3) := by decide +kernel
theorem dX9_unlink_19 : decode cX9_unlink 19 = .ok (.goto (-17), 3) := by decide +kernel
theorem dX9_unlink_22 : decode cX9_unlink 22 = .ok (.return_, 1) := by decide +kernel
set_option maxRecDepth 20000 in
theorem ggX9_isHost_X9_in : GoodIn wsX9_isHost wsX9_in := goodIn_r _ [5] (by decide +kernel) (by decide +kernel)
set_option maxRecDepth 20000 in
theorem gX9_isHost_X9_in : GoodIn wsX9_isHost (va_wsS RX9 65 yX9_in wsX9_in) := goodIn_app (goodIn_of _ (by decide +kernel)) ggX9_isHost_X9_in
theorem dX9_isHost_0 : decode cX9_isHost 0 = .ok (.iload_n 1, 1) := by decide +kernel
theorem dX9_isHost_1 : decode cX9_isHost 1 = .ok (.iconst 0, 1) := by decide +kernel
theorem dX9_isHost_2 : decode cX9_isHost 2 = .ok (.aload_n 0, 1) := by decide +kernel
theorem dX9_isHost_3 : decode cX9_isHost 3 = .ok (.getfield 9, 3) := by decide +kernel
theorem dX9_isHost_6 : decode cX9_isHost 6 = .ok (.iconst 1, 1) := by decide +kernel
theorem dX9_isHost_7 : decode cX9_isHost 7 = .ok (.isub, 1) := by decide +kernel
theorem dX9_isHost_8 : decode cX9_isHost 8 = .ok (.invokestatic 65, 3) := by decide +kernel
theorem dX9_isHost_11 : decode cX9_isHost 11 = .ok (.ireturn, 1) := by decide +kernel
set_option maxRecDepth 20000 in
theorem ggX9_isLive_X9_isHost : GoodIn wsX9_isLive wsX9_isHost := goodIn_r _ [6, 7, 8, 9, 5, 10, 11, 12, 13, 14, 15, 16, 17, 18, 19, 20, 21, 22, 23, 24, 25, 26, 27, 28, 29] (by decide +kernel) (by decide +kernel)
set_option maxRecDepth 20000 in
theorem gX9_isLive_X9_isHost : GoodIn wsX9_isLive (wsV RX9 69 RX9 yX9_isHost wsX9_isHost) := goodIn_app (goodIn_of _ (by decide +kernel)) ggX9_isLive_X9_isHost
theorem dX9_isLive_0 : decode cX9_isLive 0 = .ok (.aload_n 0, 1) := by decide +kernel
theorem dX9_isLive_1 : decode cX9_isLive 1 = .ok (.iload_n 1, 1) := by decide +kernel
theorem dX9_isLive_2 : decode cX9_isLive 2 = .ok (.invokevirtual 69, 3) := by decide +kernel
theorem dX9_isLive_5 : decode cX9_isLive 5 = .ok (.ifCond .eq 16, 3) := by decide +kernel
theorem dX9_isLive_8 : decode cX9_isLive 8 = .ok (.aload_n 0, 1) := by decide +kernel
theorem dX9_isLive_9 : decode cX9_isLive 9 = .ok (.getfield 13, 3) := by decide +kernel
theorem dX9_isLive_12 : decode cX9_isLive 12 = .ok (.iload_n 1, 1) := by decide +kernel
theorem dX9_isLive_13 : decode cX9_isLive 13 = .ok (.baload, 1) := by decide +kernel
theorem dX9_isLive_14 : decode cX9_isLive 14 = .ok (.ifCond .ne 7, 3) := by decide +kernel
theorem dX9_isLive_17 : decode cX9_isLive 17 = .ok (.iconst 1, 1) := by decide +kernel
theorem dX9_isLive_18 : decode cX9_isLive 18 = .ok (.goto 4, 3) := by decide +kernel
theorem dX9_isLive_21 : decode cX9_isLive 21 = .ok (.iconst 0, 1) := by decide +kernel
theorem dX9_isLive_22 : decode cX9_isLive 22 = .ok (.ireturn, 1) := by decide +kernel
theorem dX9_areJoined_0 : decode cX9_areJoined 0 = .ok (.aload_n 0, 1) := by decide +kernel
theorem dX9_areJoined_1 : decode cX9_areJoined 1 = .ok (.getfield 21, 3) := by decide +kernel
theorem dX9_areJoined_4 : decode cX9_areJoined 4 = .ok (.bipush 16, 2) := by decide +kernel
theorem dX9_areJoined_6 : decode cX9_areJoined 6 = .ok (.iload_n 1, 1) := by decide +kernel
theorem dX9_areJoined_7 : decode cX9_areJoined 7 = .ok (.imul, 1) := by decide +kernel
theorem dX9_areJoined_8 : decode cX9_areJoined 8 = .ok (.iload_n 2, 1) := by decide +kernel
theorem dX9_areJoined_9 : decode cX9_areJoined 9 = .ok (.iadd, 1) := by decide +kernel
theorem dX9_areJoined_10 : decode cX9_areJoined 10 = .ok (.iaload, 1) := by decide +kernel
theorem dX9_areJoined_11 : decode cX9_areJoined 11 = .ok (.iconst (-1), 1) := by decide +kernel
theorem dX9_areJoined_12 : decode cX9_areJoined 12 = .ok (.if_icmp .eq 7, 3) := by decide +kernel
theorem dX9_areJoined_15 : decode cX9_areJoined 15 = .ok (.iconst 1, 1) := by decide +kernel
theorem dX9_areJoined_16 : decode cX9_areJoined 16 = .ok (.goto 4, 3) := by decide +kernel
theorem dX9_areJoined_19 : decode cX9_areJoined 19 = .ok (.iconst 0, 1) := by decide +kernel
theorem dX9_areJoined_20 : decode cX9_areJoined 20 = .ok (.ireturn, 1) := by decide +kernel
theorem dX9_liveMany_0 : decode cX9_liveMany 0 = .ok (.iconst 0, 1) := by decide +kernel
theorem dX9_liveMany_1 : decode cX9_liveMany 1 = .ok (.istore_n 1, 1) := by decide +kernel
theorem dX9_liveMany_2 : decode cX9_liveMany 2 = .ok (.iconst 0, 1) := by decide +kernel
theorem dX9_liveMany_3 : decode cX9_liveMany 3 = .ok (.istore_n 2, 1) := by decide +kernel
theorem dX9_liveMany_4 : decode cX9_liveMany 4 = .ok (.iload_n 2, 1) := by decide +kernel
theorem dX9_liveMany_5 : decode cX9_liveMany 5 = .ok (.aload_n 0, 1) := by decide +kernel
theorem dX9_liveMany_6 : decode cX9_liveMany 6 = .ok (.getfield 9, 3) := by decide +kernel
theorem dX9_liveMany_9 : decode cX9_liveMany 9 = .ok (.if_icmp .ge 21, 3) := by decide +kernel
theorem dX9_liveMany_12 : decode cX9_liveMany 12 = .ok (.aload_n 0, 1) := by decide +kernel
theorem dX9_liveMany_13 : decode cX9_liveMany 13 = .ok (.getfield 13, 3) := by decide +kernel
theorem dX9_liveMany_16 : decode cX9_liveMany 16 = .ok (.iload_n 2, 1) := by decide +kernel
theorem dX9_liveMany_17 : decode cX9_liveMany 17 = .ok (.baload, 1) := by decide +kernel
theorem dX9_liveMany_18 : decode cX9_liveMany 18 = .ok (.ifCond .ne 6, 3) := by decide +kernel
theorem dX9_liveMany_21 : decode cX9_liveMany 21 = .ok (.iinc 1 1, 3) := by decide +kernel
theorem dX9_liveMany_24 : decode cX9_liveMany 24 = .ok (.iinc 2 1, 3) := by decide +kernel
theorem dX9_liveMany_27 : decode cX9_liveMany 27 = .ok (.goto (-23), 3) := by decide +kernel
theorem dX9_liveMany_30 : decode cX9_liveMany 30 = .ok (.iload_n 1, 1) := by decide +kernel
theorem dX9_liveMany_31 : decode cX9_liveMany 31 = .ok (.ireturn, 1) := by decide +kernel
theorem dX9_hostOf_0 : decode cX9_hostOf 0 = .ok (.iload_n 1, 1) := by decide +kernel
theorem dX9_hostOf_1 : decode cX9_hostOf 1 = .ok (.istore_n 2, 1) := by decide +kernel
theorem dX9_hostOf_2 : decode cX9_hostOf 2 = .ok (.iconst 0, 1) := by decide +kernel
theorem dX9_hostOf_3 : decode cX9_hostOf 3 = .ok (.istore_n 3, 1) := by decide +kernel
theorem dX9_hostOf_4 : decode cX9_hostOf 4 = .ok (.aload_n 0, 1) := by decide +kernel
theorem dX9_hostOf_5 : decode cX9_hostOf 5 = .ok (.getfield 13, 3) := by decide +kernel
theorem dX9_hostOf_8 : decode cX9_hostOf 8 = .ok (.iload_n 3, 1) := by decide +kernel
theorem dX9_hostOf_9 : decode cX9_hostOf 9 = .ok (.baload, 1) := by decide +kernel
theorem dX9_hostOf_10 : decode cX9_hostOf 10 = .ok (.ifCond .ne 7, 3) := by decide +kernel
theorem dX9_hostOf_13 : decode cX9_hostOf 13 = .ok (.iload_n 2, 1) := by decide +kernel
theorem dX9_hostOf_14 : decode cX9_hostOf 14 = .ok (.ifCond .le 21, 3) := by decide +kernel
theorem dX9_hostOf_17 : decode cX9_hostOf 17 = .ok (.aload_n 0, 1) := by decide +kernel
theorem dX9_hostOf_18 : decode cX9_hostOf 18 = .ok (.getfield 13, 3) := by decide +kernel
theorem dX9_hostOf_21 : decode cX9_hostOf 21 = .ok (.iload_n 3, 1) := by decide +kernel
theorem dX9_hostOf_22 : decode cX9_hostOf 22 = .ok (.baload, 1) := by decide +kernel
theorem dX9_hostOf_23 : decode cX9_hostOf 23 = .ok (.ifCond .ne 6, 3) := by decide +kernel
theorem dX9_hostOf_26 : decode cX9_hostOf 26 = .ok (.iinc 2 (-1), 3) := by decide +kernel
theorem dX9_hostOf_29 : decode cX9_hostOf 29 = .ok (.iinc 3 1, 3) := by decide +kernel
theorem dX9_hostOf_32 : decode cX9_hostOf 32 = .ok (.goto (-28), 3) := by decide +kernel
theorem dX9_hostOf_35 : decode cX9_hostOf 35 = .ok (.iload_n 3, 1) := by decide +kernel
theorem dX9_hostOf_36 : decode cX9_hostOf 36 = .ok (.ireturn, 1) := by decide +kernel
theorem dX9_rankOf_0 : decode cX9_rankOf 0 = .ok (.iconst 0, 1) := by decide +kernel
theorem dX9_rankOf_1 : decode cX9_rankOf 1 = .ok (.istore_n 2, 1) := by decide +kernel
theorem dX9_rankOf_2 : decode cX9_rankOf 2 = .ok (.iconst 0, 1) := by decide +kernel
theorem dX9_rankOf_3 : decode cX9_rankOf 3 = .ok (.istore_n 3, 1) := by decide +kernel
theorem dX9_rankOf_4 : decode cX9_rankOf 4 = .ok (.iload_n 3, 1) := by decide +kernel
theorem dX9_rankOf_5 : decode cX9_rankOf 5 = .ok (.iload_n 1, 1) := by decide +kernel
theorem dX9_rankOf_6 : decode cX9_rankOf 6 = .ok (.if_icmp .ge 21, 3) := by decide +kernel
theorem dX9_rankOf_9 : decode cX9_rankOf 9 = .ok (.aload_n 0, 1) := by decide +kernel
theorem dX9_rankOf_10 : decode cX9_rankOf 10 = .ok (.getfield 13, 3) := by decide +kernel
theorem dX9_rankOf_13 : decode cX9_rankOf 13 = .ok (.iload_n 3, 1) := by decide +kernel
theorem dX9_rankOf_14 : decode cX9_rankOf 14 = .ok (.baload, 1) := by decide +kernel
theorem dX9_rankOf_15 : decode cX9_rankOf 15 = .ok (.ifCond .ne 6, 3) := by decide +kernel
theorem dX9_rankOf_18 : decode cX9_rankOf 18 = .ok (.iinc 2 1, 3) := by decide +kernel
theorem dX9_rankOf_21 : decode cX9_rankOf 21 = .ok (.iinc 3 1, 3) := by decide +kernel
theorem dX9_rankOf_24 : decode cX9_rankOf 24 = .ok (.goto (-20), 3) := by decide +kernel
theorem dX9_rankOf_27 : decode cX9_rankOf 27 = .ok (.iload_n 2, 1) := by decide +kernel
theorem dX9_rankOf_28 : decode cX9_rankOf 28 = .ok (.ireturn, 1) := by decide +kernel
set_option maxRecDepth 20000 in
theorem ggX9_hosts_X9_in : GoodIn wsX9_hosts wsX9_in := goodIn_r _ [10] (by decide +kernel) (by decide +kernel)
set_option maxRecDepth 20000 in
theorem gX9_hosts_X9_in : GoodIn wsX9_hosts (va_wsS RX9 65 yX9_in wsX9_in) := goodIn_app (goodIn_of _ (by decide +kernel)) ggX9_hosts_X9_in
set_option maxRecDepth 20000 in
theorem ggX9_hosts_X9_unlink : GoodIn wsX9_hosts wsX9_unlink := goodIn_r _ [14, 15, 16, 17, 18, 19, 20, 21, 22, 23, 24, 25, 26, 27, 28, 29, 30, 31, 32, 33, 34] (by decide +kernel) (by decide +kernel)
set_option maxRecDepth 20000 in
theorem gX9_hosts_X9_unlink : GoodIn wsX9_hosts (wsV RX9 59 RX9 yX9_unlink wsX9_unlink) := goodIn_app (goodIn_of _ (by decide +kernel)) ggX9_hosts_X9_unlink
theorem dX9_hosts_0 : decode cX9_hosts 0 = .ok (.aload_n 0, 1) := by decide +kernel
theorem dX9_hosts_1 : decode cX9_hosts 1 = .ok (.iconst 0, 1) := by decide +kernel
theorem dX9_hosts_2 : decode cX9_hosts 2 = .ok (.putfield 62, 3) := by decide +kernel
theorem dX9_hosts_5 : decode cX9_hosts 5 = .ok (.iload_n 1, 1) := by decide +kernel
theorem dX9_hosts_6 : decode cX9_hosts 6 = .ok (.iconst 2, 1) := by decide +kernel
theorem dX9_hosts_7 : decode cX9_hosts 7 = .ok (.bipush 16, 2) := by decide +kernel
theorem dX9_hosts_9 : decode cX9_hosts 9 = .ok (.invokestatic 65, 3) := by decide +kernel
theorem dX9_hosts_12 : decode cX9_hosts 12 = .ok (.ifCond .ne 5, 3) := by decide +kernel
theorem dX9_hosts_15 : decode cX9_hosts 15 = .ok (.iconst 0, 1) := by decide +kernel
theorem dX9_hosts_16 : decode cX9_hosts 16 = .ok (.ireturn, 1) := by decide +kernel
theorem dX9_hosts_17 : decode cX9_hosts 17 = .ok (.aload_n 0, 1) := by decide +kernel
theorem dX9_hosts_18 : decode cX9_hosts 18 = .ok (.iload_n 1, 1) := by decide +kernel
theorem dX9_hosts_19 : decode cX9_hosts 19 = .ok (.putfield 9, 3) := by decide +kernel
theorem dX9_hosts_22 : decode cX9_hosts 22 = .ok (.iconst 0, 1) := by decide +kernel
theorem dX9_hosts_23 : decode cX9_hosts 23 = .ok (.istore_n 2, 1) := by decide +kernel
theorem dX9_hosts_24 : decode cX9_hosts 24 = .ok (.iload_n 2, 1) := by decide +kernel
theorem dX9_hosts_25 : decode cX9_hosts 25 = .ok (.bipush 16, 2) := by decide +kernel
theorem dX9_hosts_27 : decode cX9_hosts 27 = .ok (.if_icmp .ge 23, 3) := by decide +kernel
theorem dX9_hosts_30 : decode cX9_hosts 30 = .ok (.aload_n 0, 1) := by decide +kernel
theorem dX9_hosts_31 : decode cX9_hosts 31 = .ok (.getfield 13, 3) := by decide +kernel
theorem dX9_hosts_34 : decode cX9_hosts 34 = .ok (.iload_n 2, 1) := by decide +kernel
theorem dX9_hosts_35 : decode cX9_hosts 35 = .ok (.iconst 0, 1) := by decide +kernel
theorem dX9_hosts_36 : decode cX9_hosts 36 = .ok (.bastore, 1) := by decide +kernel
theorem dX9_hosts_37 : decode cX9_hosts 37 = .ok (.aload_n 0, 1) := by decide +kernel
theorem dX9_hosts_38 : decode cX9_hosts 38 = .ok (.getfield 17, 3) := by decide +kernel
theorem dX9_hosts_41 : decode cX9_hosts 41 = .ok (.iload_n 2, 1) := by decide +kernel
theorem dX9_hosts_42 : decode cX9_hosts 42 = .ok (.iconst 0, 1) := by decide +kernel
theorem dX9_hosts_43 : decode cX9_hosts 43 = .ok (.iastore, 1) := by decide +kernel
theorem dX9_hosts_44 : decode cX9_hosts 44 = .ok (.iinc 2 1, 3) := by decide +kernel
theorem dX9_hosts_47 : decode cX9_hosts 47 = .ok (.goto (-23), 3) := by decide +kernel
theorem dX9_hosts_50 : decode cX9_hosts 50 = .ok (.iconst 0, 1) := by decide +kernel
theorem dX9_hosts_51 : decode cX9_hosts 51 = .ok (.istore_n 2, 1) := by decide +kernel
theorem dX9_hosts_52 : decode cX9_hosts 52 = .ok (.iload_n 2, 1) := by decide +kernel
theorem dX9_hosts_53 : decode cX9_hosts 53 = .ok (.sipush 256, 3) := by decide +kernel
theorem dX9_hosts_56 : decode cX9_hosts 56 = .ok (.if_icmp .ge 16, 3) := by decide +kernel
theorem dX9_hosts_59 : decode cX9_hosts 59 = .ok (.aload_n 0, 1) := by decide +kernel
theorem dX9_hosts_60 : decode cX9_hosts 60 = .ok (.getfield 27, 3) := by decide +kernel
theorem dX9_hosts_63 : decode cX9_hosts 63 = .ok (.iload_n 2, 1) := by decide +kernel
theorem dX9_hosts_64 : decode cX9_hosts 64 = .ok (.iconst 0, 1) := by decide +kernel
theorem dX9_hosts_65 : decode cX9_hosts 65 = .ok (.iastore, 1) := by decide +kernel
theorem dX9_hosts_66 : decode cX9_hosts 66 = .ok (.iinc 2 1, 3) := by decide +kernel
theorem dX9_hosts_69 : decode cX9_hosts 69 = .ok (.goto (-17), 3) := by decide +kernel
theorem dX9_hosts_72 : decode cX9_hosts 72 = .ok (.aload_n 0, 1) := by decide +kernel
theorem dX9_hosts_73 : decode cX9_hosts 73 = .ok (.invokevirtual 59, 3) := by decide +kernel
theorem dX9_hosts_76 : decode cX9_hosts 76 = .ok (.aload_n 0, 1) := by decide +kernel
theorem dX9_hosts_77 : decode cX9_hosts 77 = .ok (.iconst 0, 1) := by decide +kernel
theorem dX9_hosts_78 : decode cX9_hosts 78 = .ok (.putfield 73, 3) := by decide +kernel
theorem dX9_hosts_81 : decode cX9_hosts 81 = .ok (.iconst 1, 1) := by decide +kernel
theorem dX9_hosts_82 : decode cX9_hosts 82 = .ok (.ireturn, 1) := by decide +kernel
theorem dX9_tie_0 : decode cX9_tie 0 = .ok (.aload_n 0, 1) := by decide +kernel
theorem dX9_tie_1 : decode cX9_tie 1 = .ok (.getfield 21, 3) := by decide +kernel
theorem dX9_tie_4 : decode cX9_tie 4 = .ok (.bipush 16, 2) := by decide +kernel
theorem dX9_tie_6 : decode cX9_tie 6 = .ok (.iload_n 1, 1) := by decide +kernel
theorem dX9_tie_7 : decode cX9_tie 7 = .ok (.imul, 1) := by decide +kernel
theorem dX9_tie_8 : decode cX9_tie 8 = .ok (.iload_n 2, 1) := by decide +kernel
theorem dX9_tie_9 : decode cX9_tie 9 = .ok (.iadd, 1) := by decide +kernel
theorem dX9_tie_10 : decode cX9_tie 10 = .ok (.iload_n 3, 1) := by decide +kernel
theorem dX9_tie_11 : decode cX9_tie 11 = .ok (.iastore, 1) := by decide +kernel
theorem dX9_tie_12 : decode cX9_tie 12 = .ok (.aload_n 0, 1) := by decide +kernel
theorem dX9_tie_13 : decode cX9_tie 13 = .ok (.getfield 21, 3) := by decide +kernel
theorem dX9_tie_16 : decode cX9_tie 16 = .ok (.bipush 16, 2) := by decide +kernel
theorem dX9_tie_18 : decode cX9_tie 18 = .ok (.iload_n 2, 1) := by decide +kernel
theorem dX9_tie_19 : decode cX9_tie 19 = .ok (.imul, 1) := by decide +kernel
theorem dX9_tie_20 : decode cX9_tie 20 = .ok (.iload_n 1, 1) := by decide +kernel
theorem dX9_tie_21 : decode cX9_tie 21 = .ok (.iadd, 1) := by decide +kernel
theorem dX9_tie_22 : decode cX9_tie 22 = .ok (.iload_n 3, 1) := by decide +kernel
theorem dX9_tie_23 : decode cX9_tie 23 = .ok (.iastore, 1) := by decide +kernel
theorem dX9_tie_24 : decode cX9_tie 24 = .ok (.aload_n 0, 1) := by decide +kernel
theorem dX9_tie_25 : decode cX9_tie 25 = .ok (.getfield 24, 3) := by decide +kernel
theorem dX9_tie_28 : decode cX9_tie 28 = .ok (.bipush 16, 2) := by decide +kernel
theorem dX9_tie_30 : decode cX9_tie 30 = .ok (.iload_n 1, 1) := by decide +kernel
theorem dX9_tie_31 : decode cX9_tie 31 = .ok (.imul, 1) := by decide +kernel
theorem dX9_tie_32 : decode cX9_tie 32 = .ok (.iload_n 2, 1) := by decide +kernel
theorem dX9_tie_33 : decode cX9_tie 33 = .ok (.iadd, 1) := by decide +kernel
theorem dX9_tie_34 : decode cX9_tie 34 = .ok (.iload 4, 2) := by decide +kernel
theorem dX9_tie_36 : decode cX9_tie 36 = .ok (.iastore, 1) := by decide +kernel
theorem dX9_tie_37 : decode cX9_tie 37 = .ok (.aload_n 0, 1) := by decide +kernel
theorem dX9_tie_38 : decode cX9_tie 38 = .ok (.getfield 24, 3) := by decide +kernel
theorem dX9_tie_41 : decode cX9_tie 41 = .ok (.bipush 16, 2) := by decide +kernel
theorem dX9_tie_43 : decode cX9_tie 43 = .ok (.iload_n 2, 1) := by decide +kernel
theorem dX9_tie_44 : decode cX9_tie 44 = .ok (.imul, 1) := by decide +kernel
theorem dX9_tie_45 : decode cX9_tie 45 = .ok (.iload_n 1, 1) := by decide +kernel
theorem dX9_tie_46 : decode cX9_tie 46 = .ok (.iadd, 1) := by decide +kernel
theorem dX9_tie_47 : decode cX9_tie 47 = .ok (.iload 4, 2) := by decide +kernel
theorem dX9_tie_49 : decode cX9_tie 49 = .ok (.iastore, 1) := by decide +kernel
theorem dX9_tie_50 : decode cX9_tie 50 = .ok (.return_, 1) := by decide +kernel
set_option maxRecDepth 20000 in
theorem ggX9_line_X9_isHost : GoodIn wsX9_line wsX9_isHost := goodIn_r _ [7, 8, 9, 10, 6, 11, 18, 19, 20, 21, 22, 23, 24, 25, 26, 27, 28, 29, 30, 31, 32, 33, 34, 35, 36] (by decide +kernel) (by decide +kernel)
set_option maxRecDepth 20000 in
theorem gX9_line_X9_isHost : GoodIn wsX9_line (wsV RX9 69 RX9 yX9_isHost wsX9_isHost) := goodIn_app (goodIn_of _ (by decide +kernel)) ggX9_line_X9_isHost
set_option maxRecDepth 20000 in
theorem ggX9_line_X9_in : GoodIn wsX9_line wsX9_in := goodIn_r _ [11] (by decide +kernel) (by decide +kernel)
set_option maxRecDepth 20000 in
theorem gX9_line_X9_in : GoodIn wsX9_line (va_wsS RX9 65 yX9_in wsX9_in) := goodIn_app (goodIn_of _ (by decide +kernel)) ggX9_line_X9_in
set_option maxRecDepth 20000 in
theorem ggX9_line_X9_tie : GoodIn wsX9_line wsX9_tie := goodIn_r _ [15, 16, 17, 18, 19, 20, 21, 22, 23, 24, 25, 26, 27, 28, 29, 30, 31, 32, 33, 34, 35, 36] (by decide +kernel) (by decide +kernel)
set_option maxRecDepth 20000 in
theorem gX9_line_X9_tie : GoodIn wsX9_line (wsV RX9 76 RX9 yX9_tie wsX9_tie) := goodIn_app (goodIn_of _ (by decide +kernel)) ggX9_line_X9_tie
theorem dX9_line_0 : decode cX9_line 0 = .ok (.aload_n 0, 1) := by decide +kernel
theorem dX9_line_1 : decode cX9_line 1 = .ok (.iconst 0, 1) := by decide +kernel
theorem dX9_line_2 : decode cX9_line 2 = .ok (.putfield 62, 3) := by decide +kernel
theorem dX9_line_5 : decode cX9_line 5 = .ok (.aload_n 0, 1) := by decide +kernel
theorem dX9_line_6 : decode cX9_line 6 = .ok (.iload_n 1, 1) := by decide +kernel
theorem dX9_line_7 : decode cX9_line 7 = .ok (.invokevirtual 69, 3) := by decide +kernel
theorem dX9_line_10 : decode cX9_line 10 = .ok (.ifCond .eq 44, 3) := by decide +kernel
theorem dX9_line_13 : decode cX9_line 13 = .ok (.aload_n 0, 1) := by decide +kernel
theorem dX9_line_14 : decode cX9_line 14 = .ok (.iload_n 2, 1) := by decide +kernel
theorem dX9_line_15 : decode cX9_line 15 = .ok (.invokevirtual 69, 3) := by decide +kernel
theorem dX9_line_18 : decode cX9_line 18 = .ok (.ifCond .eq 36, 3) := by decide +kernel
theorem dX9_line_21 : decode cX9_line 21 = .ok (.iload_n 1, 1) := by decide +kernel
theorem dX9_line_22 : decode cX9_line 22 = .ok (.iload_n 2, 1) := by decide +kernel
theorem dX9_line_23 : decode cX9_line 23 = .ok (.if_icmp .eq 31, 3) := by decide +kernel
theorem dX9_line_26 : decode cX9_line 26 = .ok (.iload_n 3, 1) := by decide +kernel
theorem dX9_line_27 : decode cX9_line 27 = .ok (.iconst (-1), 1) := by decide +kernel
theorem dX9_line_28 : decode cX9_line 28 = .ok (.sipush 1000, 3) := by decide +kernel
theorem dX9_line_31 : decode cX9_line 31 = .ok (.invokestatic 65, 3) := by decide +kernel
theorem dX9_line_34 : decode cX9_line 34 = .ok (.ifCond .eq 20, 3) := by decide +kernel
theorem dX9_line_37 : decode cX9_line 37 = .ok (.iload_n 3, 1) := by decide +kernel
theorem dX9_line_38 : decode cX9_line 38 = .ok (.iconst (-1), 1) := by decide +kernel
theorem dX9_line_39 : decode cX9_line 39 = .ok (.if_icmp .eq 17, 3) := by decide +kernel
theorem dX9_line_42 : decode cX9_line 42 = .ok (.iload 4, 2) := by decide +kernel
theorem dX9_line_44 : decode cX9_line 44 = .ok (.iconst 1, 1) := by decide +kernel
theorem dX9_line_45 : decode cX9_line 45 = .ok (.sipush 1000, 3) := by decide +kernel
theorem dX9_line_48 : decode cX9_line 48 = .ok (.invokestatic 65, 3) := by decide +kernel
theorem dX9_line_51 : decode cX9_line 51 = .ok (.ifCond .ne 5, 3) := by decide +kernel
theorem dX9_line_54 : decode cX9_line 54 = .ok (.iconst 0, 1) := by decide +kernel
theorem dX9_line_55 : decode cX9_line 55 = .ok (.ireturn, 1) := by decide +kernel
theorem dX9_line_56 : decode cX9_line 56 = .ok (.aload_n 0, 1) := by decide +kernel
theorem dX9_line_57 : decode cX9_line 57 = .ok (.iload_n 1, 1) := by decide +kernel
theorem dX9_line_58 : decode cX9_line 58 = .ok (.iload_n 2, 1) := by decide +kernel
theorem dX9_line_59 : decode cX9_line 59 = .ok (.iload_n 3, 1) := by decide +kernel
theorem dX9_line_60 : decode cX9_line 60 = .ok (.iload 4, 2) := by decide +kernel
theorem dX9_line_62 : decode cX9_line 62 = .ok (.invokevirtual 76, 3) := by decide +kernel
theorem dX9_line_65 : decode cX9_line 65 = .ok (.aload_n 0, 1) := by decide +kernel
theorem dX9_line_66 : decode cX9_line 66 = .ok (.iconst 0, 1) := by decide +kernel
theorem dX9_line_67 : decode cX9_line 67 = .ok (.putfield 73, 3) := by decide +kernel
theorem dX9_line_70 : decode cX9_line 70 = .ok (.iconst 1, 1) := by decide +kernel
theorem dX9_line_71 : decode cX9_line 71 = .ok (.ireturn, 1) := by decide +kernel
set_option maxRecDepth 20000 in
theorem ggX9_lines_X9_areJoined : GoodIn wsX9_lines wsX9_areJoined := goodIn_r _ [6, 7, 8, 9, 10, 11, 12, 13, 14, 15, 16, 17, 18, 19, 20, 21, 22, 23, 24, 25, 26] (by decide +kernel) (by decide +kernel)
set_option maxRecDepth 20000 in
theorem gX9_lines_X9_areJoined : GoodIn wsX9_lines (wsV RX9 80 RX9 yX9_areJoined wsX9_areJoined) := goodIn_app (goodIn_of _ (by decide +kernel)) ggX9_lines_X9_areJoined
theorem dX9_lines_0 : decode cX9_lines 0 = .ok (.iconst 0, 1) := by decide +kernel
theorem dX9_lines_1 : decode cX9_lines 1 = .ok (.istore_n 1, 1) := by decide +kernel
theorem dX9_lines_2 : decode cX9_lines 2 = .ok (.iconst 0, 1) := by decide +kernel
theorem dX9_lines_3 : decode cX9_lines 3 = .ok (.istore_n 2, 1) := by decide +kernel
theorem dX9_lines_4 : decode cX9_lines 4 = .ok (.iload_n 2, 1) := by decide +kernel
theorem dX9_lines_5 : decode cX9_lines 5 = .ok (.aload_n 0, 1) := by decide +kernel
theorem dX9_lines_6 : decode cX9_lines 6 = .ok (.getfield 9, 3) := by decide +kernel
theorem dX9_lines_9 : decode cX9_lines 9 = .ok (.if_icmp .ge 34, 3) := by decide +kernel
theorem dX9_lines_12 : decode cX9_lines 12 = .ok (.iconst 0, 1) := by decide +kernel
theorem dX9_lines_13 : decode cX9_lines 13 = .ok (.istore_n 3, 1) := by decide +kernel
theorem dX9_lines_14 : decode cX9_lines 14 = .ok (.iload_n 3, 1) := by decide +kernel
theorem dX9_lines_15 : decode cX9_lines 15 = .ok (.iload_n 2, 1) := by decide +kernel
theorem dX9_lines_16 : decode cX9_lines 16 = .ok (.if_icmp .ge 21, 3) := by decide +kernel
theorem dX9_lines_19 : decode cX9_lines 19 = .ok (.aload_n 0, 1) := by decide +kernel
theorem dX9_lines_20 : decode cX9_lines 20 = .ok (.iload_n 2, 1) := by decide +kernel
theorem dX9_lines_21 : decode cX9_lines 21 = .ok (.iload_n 3, 1) := by decide +kernel
theorem dX9_lines_22 : decode cX9_lines 22 = .ok (.invokevirtual 80, 3) := by decide +kernel
theorem dX9_lines_25 : decode cX9_lines 25 = .ok (.ifCond .eq 6, 3) := by decide +kernel
theorem dX9_lines_28 : decode cX9_lines 28 = .ok (.iinc 1 1, 3) := by decide +kernel
theorem dX9_lines_31 : decode cX9_lines 31 = .ok (.iinc 3 1, 3) := by decide +kernel
theorem dX9_lines_34 : decode cX9_lines 34 = .ok (.goto (-20), 3) := by decide +kernel
theorem dX9_lines_37 : decode cX9_lines 37 = .ok (.iinc 2 1, 3) := by decide +kernel
theorem dX9_lines_40 : decode cX9_lines 40 = .ok (.goto (-36), 3) := by decide +kernel
theorem dX9_lines_43 : decode cX9_lines 43 = .ok (.iload_n 1, 1) := by decide +kernel
theorem dX9_lines_44 : decode cX9_lines 44 = .ok (.ireturn, 1) := by decide +kernel
set_option maxRecDepth 20000 in
theorem ggX9_net_X9_in : GoodIn wsX9_net wsX9_in := goodIn_r _ [7] (by decide +kernel) (by decide +kernel)
set_option maxRecDepth 20000 in
theorem gX9_net_X9_in : GoodIn wsX9_net (va_wsS RX9 65 yX9_in wsX9_in) := goodIn_app (goodIn_of _ (by decide +kernel)) ggX9_net_X9_in
set_option maxRecDepth 20000 in
theorem ggX9_net_J6_bitCount_0f7a4 : GoodIn wsX9_net wsJ6_bitCount_0f7a4 := goodIn_r _ [11, 12, 13, 14] (by decide +kernel) (by decide +kernel)
set_option maxRecDepth 20000 in
theorem gX9_net_J6_bitCount_0f7a4 : GoodIn wsX9_net (va_wsS RX9 84 yJ6_bitCount_0f7a4 wsJ6_bitCount_0f7a4) := goodIn_app (goodIn_of _ (by decide +kernel)) ggX9_net_J6_bitCount_0f7a4
set_option maxRecDepth 20000 in
theorem ggX9_net_X9_tie : GoodIn wsX9_net wsX9_tie := goodIn_r _ [18, 19, 20, 29, 30, 31, 32, 33, 34, 35, 36, 37, 38, 39, 40, 41, 42, 43, 44, 45, 46, 47] (by decide +kernel) (by decide +kernel)
set_option maxRecDepth 20000 in
theorem gX9_net_X9_tie : GoodIn wsX9_net (wsV RX9 76 RX9 yX9_tie wsX9_tie) := goodIn_app (goodIn_of _ (by decide +kernel)) ggX9_net_X9_tie
set_option maxRecDepth 20000 in
theorem ggX9_net_X9_lines : GoodIn wsX9_net wsX9_lines := goodIn_r _ [24, 2, 25, 26, 27, 6, 28, 19, 29, 30, 31, 32, 33, 34, 35, 36, 37, 38, 39, 40, 41, 42, 43, 44, 45, 46, 47] (by decide +kernel) (by decide +kernel)
set_option maxRecDepth 20000 in
theorem gX9_net_X9_lines : GoodIn wsX9_net (wsV RX9 90 RX9 yX9_lines wsX9_lines) := goodIn_app (goodIn_of _ (by decide +kernel)) ggX9_net_X9_lines
theorem dX9_net_0 : decode cX9_net 0 = .ok (.aload_n 0, 1) := by decide +kernel
theorem dX9_net_1 : decode cX9_net 1 = .ok (.iconst 0, 1) := by decide +kernel
theorem dX9_net_2 : decode cX9_net 2 = .ok (.putfield 62, 3) := by decide +kernel
theorem dX9_net_5 : decode cX9_net 5 = .ok (.iload_n 1, 1) := by decide +kernel
theorem dX9_net_6 : decode cX9_net 6 = .ok (.iconst 0, 1) := by decide +kernel
theorem dX9_net_7 : decode cX9_net 7 = .ok (.iconst 3, 1) := by decide +kernel
theorem dX9_net_8 : decode cX9_net 8 = .ok (.invokestatic 65, 3) := by decide +kernel
theorem dX9_net_11 : decode cX9_net 11 = .ok (.ifCond .eq 25, 3) := by decide +kernel
theorem dX9_net_14 : decode cX9_net 14 = .ok (.iload_n 2, 1) := by decide +kernel
theorem dX9_net_15 : decode cX9_net 15 = .ok (.iconst 0, 1) := by decide +kernel
theorem dX9_net_16 : decode cX9_net 16 = .ok (.sipush 1000, 3) := by decide +kernel
theorem dX9_net_19 : decode cX9_net 19 = .ok (.invokestatic 65, 3) := by decide +kernel
theorem dX9_net_22 : decode cX9_net 22 = .ok (.ifCond .eq 14, 3) := by decide +kernel
theorem dX9_net_25 : decode cX9_net 25 = .ok (.iload_n 3, 1) := by decide +kernel
theorem dX9_net_26 : decode cX9_net 26 = .ok (.iconst 1, 1) := by decide +kernel
theorem dX9_net_27 : decode cX9_net 27 = .ok (.sipush 1000, 3) := by decide +kernel
theorem dX9_net_30 : decode cX9_net 30 = .ok (.invokestatic 65, 3) := by decide +kernel
theorem dX9_net_33 : decode cX9_net 33 = .ok (.ifCond .ne 5, 3) := by decide +kernel
theorem dX9_net_36 : decode cX9_net 36 = .ok (.iconst (-1), 1) := by decide +kernel
theorem dX9_net_37 : decode cX9_net 37 = .ok (.ireturn, 1) := by decide +kernel
theorem dX9_net_38 : decode cX9_net 38 = .ok (.iconst 0, 1) := by decide +kernel
theorem dX9_net_39 : decode cX9_net 39 = .ok (.istore 4, 2) := by decide +kernel
theorem dX9_net_41 : decode cX9_net 41 = .ok (.iload 4, 2) := by decide +kernel
theorem dX9_net_43 : decode cX9_net 43 = .ok (.aload_n 0, 1) := by decide +kernel
theorem dX9_net_44 : decode cX9_net 44 = .ok (.getfield 9, 3) := by decide +kernel
theorem dX9_net_47 : decode cX9_net 47 = .ok (.if_icmp .ge 125, 3) := by decide +kernel
theorem dX9_net_50 : decode cX9_net 50 = .ok (.iload 4, 2) := by decide +kernel
theorem dX9_net_52 : decode cX9_net 52 = .ok (.iconst 1, 1) := by decide +kernel
theorem dX9_net_53 : decode cX9_net 53 = .ok (.iadd, 1) := by decide +kernel
theorem dX9_net_54 : decode cX9_net 54 = .ok (.istore 5, 2) := by decide +kernel
theorem dX9_net_56 : decode cX9_net 56 = .ok (.iload 5, 2) := by decide +kernel
theorem dX9_net_58 : decode cX9_net 58 = .ok (.aload_n 0, 1) := by decide +kernel
theorem dX9_net_59 : decode cX9_net 59 = .ok (.getfield 9, 3) := by decide +kernel
theorem dX9_net_62 : decode cX9_net 62 = .ok (.if_icmp .ge 104, 3) := by decide +kernel
theorem dX9_net_65 : decode cX9_net 65 = .ok (.iload 5, 2) := by decide +kernel
theorem dX9_net_67 : decode cX9_net 67 = .ok (.iload 4, 2) := by decide +kernel
theorem dX9_net_69 : decode cX9_net 69 = .ok (.iconst 1, 1) := by decide +kernel
theorem dX9_net_70 : decode cX9_net 70 = .ok (.iadd, 1) := by decide +kernel
theorem dX9_net_71 : decode cX9_net 71 = .ok (.if_icmp .ne 7, 3) := by decide +kernel
theorem dX9_net_74 : decode cX9_net 74 = .ok (.iconst 1, 1) := by decide +kernel
theorem dX9_net_75 : decode cX9_net 75 = .ok (.goto 4, 3) := by decide +kernel
theorem dX9_net_78 : decode cX9_net 78 = .ok (.iconst 0, 1) := by decide +kernel
theorem dX9_net_79 : decode cX9_net 79 = .ok (.istore 6, 2) := by decide +kernel
theorem dX9_net_81 : decode cX9_net 81 = .ok (.iload_n 1, 1) := by decide +kernel
theorem dX9_net_82 : decode cX9_net 82 = .ok (.iconst 1, 1) := by decide +kernel
theorem dX9_net_83 : decode cX9_net 83 = .ok (.if_icmp .eq 55, 3) := by decide +kernel
theorem dX9_net_86 : decode cX9_net 86 = .ok (.iload_n 1, 1) := by decide +kernel
theorem dX9_net_87 : decode cX9_net 87 = .ok (.iconst 2, 1) := by decide +kernel
theorem dX9_net_88 : decode cX9_net 88 = .ok (.if_icmp .ne 8, 3) := by decide +kernel
theorem dX9_net_91 : decode cX9_net 91 = .ok (.iload 6, 2) := by decide +kernel
theorem dX9_net_93 : decode cX9_net 93 = .ok (.ifCond .ne 45, 3) := by decide +kernel
theorem dX9_net_96 : decode cX9_net 96 = .ok (.iload_n 1, 1) := by decide +kernel
theorem dX9_net_97 : decode cX9_net 97 = .ok (.ifCond .ne 24, 3) := by decide +kernel
theorem dX9_net_100 : decode cX9_net 100 = .ok (.iload 6, 2) := by decide +kernel
theorem dX9_net_102 : decode cX9_net 102 = .ok (.ifCond .ne 36, 3) := by decide +kernel
theorem dX9_net_105 : decode cX9_net 105 = .ok (.iload 4, 2) := by decide +kernel
theorem dX9_net_107 : decode cX9_net 107 = .ok (.ifCond .ne 14, 3) := by decide +kernel
theorem dX9_net_110 : decode cX9_net 110 = .ok (.iload 5, 2) := by decide +kernel
theorem dX9_net_112 : decode cX9_net 112 = .ok (.aload_n 0, 1) := by decide +kernel
theorem dX9_net_113 : decode cX9_net 113 = .ok (.getfield 9, 3) := by decide +kernel
theorem dX9_net_116 : decode cX9_net 116 = .ok (.iconst 1, 1) := by decide +kernel
theorem dX9_net_117 : decode cX9_net 117 = .ok (.isub, 1) := by decide +kernel
theorem dX9_net_118 : decode cX9_net 118 = .ok (.if_icmp .eq 20, 3) := by decide +kernel
theorem dX9_net_121 : decode cX9_net 121 = .ok (.iload_n 1, 1) := by decide +kernel
theorem dX9_net_122 : decode cX9_net 122 = .ok (.iconst 3, 1) := by decide +kernel
theorem dX9_net_123 : decode cX9_net 123 = .ok (.if_icmp .ne 19, 3) := by decide +kernel
theorem dX9_net_126 : decode cX9_net 126 = .ok (.iload 4, 2) := by decide +kernel
theorem dX9_net_128 : decode cX9_net 128 = .ok (.iload 5, 2) := by decide +kernel
theorem dX9_net_130 : decode cX9_net 130 = .ok (.ixor, 1) := by decide +kernel
theorem dX9_net_131 : decode cX9_net 131 = .ok (.invokestatic 84, 3) := by decide +kernel
theorem dX9_net_134 : decode cX9_net 134 = .ok (.iconst 1, 1) := by decide +kernel
theorem dX9_net_135 : decode cX9_net 135 = .ok (.if_icmp .ne 7, 3) := by decide +kernel
theorem dX9_net_138 : decode cX9_net 138 = .ok (.iconst 1, 1) := by decide +kernel
theorem dX9_net_139 : decode cX9_net 139 = .ok (.goto 4, 3) := by decide +kernel
theorem dX9_net_142 : decode cX9_net 142 = .ok (.iconst 0, 1) := by decide +kernel
theorem dX9_net_143 : decode cX9_net 143 = .ok (.istore 7, 2) := by decide +kernel
theorem dX9_net_145 : decode cX9_net 145 = .ok (.iload 7, 2) := by decide +kernel
theorem dX9_net_147 : decode cX9_net 147 = .ok (.ifCond .eq 13, 3) := by decide +kernel
theorem dX9_net_150 : decode cX9_net 150 = .ok (.aload_n 0, 1) := by decide +kernel
theorem dX9_net_151 : decode cX9_net 151 = .ok (.iload 4, 2) := by decide +kernel
theorem dX9_net_153 : decode cX9_net 153 = .ok (.iload 5, 2) := by decide +kernel
theorem dX9_net_155 : decode cX9_net 155 = .ok (.iload_n 2, 1) := by decide +kernel
theorem dX9_net_156 : decode cX9_net 156 = .ok (.iload_n 3, 1) := by decide +kernel
theorem dX9_net_157 : decode cX9_net 157 = .ok (.invokevirtual 76, 3) := by decide +kernel
theorem dX9_net_160 : decode cX9_net 160 = .ok (.iinc 5 1, 3) := by decide +kernel
theorem dX9_net_163 : decode cX9_net 163 = .ok (.goto (-107), 3) := by decide +kernel
theorem dX9_net_166 : decode cX9_net 166 = .ok (.iinc 4 1, 3) := by decide +kernel
theorem dX9_net_169 : decode cX9_net 169 = .ok (.goto (-128), 3) := by decide +kernel
theorem dX9_net_172 : decode cX9_net 172 = .ok (.aload_n 0, 1) := by decide +kernel
theorem dX9_net_173 : decode cX9_net 173 = .ok (.iconst 0, 1) := by decide +kernel
theorem dX9_net_174 : decode cX9_net 174 = .ok (.putfield 73, 3) := by decide +kernel
theorem dX9_net_177 : decode cX9_net 177 = .ok (.aload_n 0, 1) := by decide +kernel
theorem dX9_net_178 : decode cX9_net 178 = .ok (.invokevirtual 90, 3) := by decide +kernel
theorem dX9_net_181 : decode cX9_net 181 = .ok (.ireturn, 1) := by decide +kernel
set_option maxRecDepth 20000 in
theorem ggX9_set_X9_isHost : GoodIn wsX9_set wsX9_isHost := goodIn_r _ [7, 8, 9, 10, 6, 11, 12, 13, 14, 15, 16, 17, 18, 19, 20, 21, 22, 23, 24, 25, 26, 27, 28, 29, 30] (by decide +kernel) (by decide +kernel)
set_option maxRecDepth 20000 in
theorem gX9_set_X9_isHost : GoodIn wsX9_set (wsV RX9 69 RX9 yX9_isHost wsX9_isHost) := goodIn_app (goodIn_of _ (by decide +kernel)) ggX9_set_X9_isHost
set_option maxRecDepth 20000 in
theorem ggX9_set_X9_in : GoodIn wsX9_set wsX9_in := goodIn_r _ [11] (by decide +kernel) (by decide +kernel)
set_option maxRecDepth 20000 in
theorem gX9_set_X9_in : GoodIn wsX9_set (va_wsS RX9 65 yX9_in wsX9_in) := goodIn_app (goodIn_of _ (by decide +kernel)) ggX9_set_X9_in
theorem dX9_set_0 : decode cX9_set 0 = .ok (.aload_n 0, 1) := by decide +kernel
theorem dX9_set_1 : decode cX9_set 1 = .ok (.iconst 0, 1) := by decide +kernel
theorem dX9_set_2 : decode cX9_set 2 = .ok (.putfield 62, 3) := by decide +kernel
theorem dX9_set_5 : decode cX9_set 5 = .ok (.aload_n 0, 1) := by decide +kernel
theorem dX9_set_6 : decode cX9_set 6 = .ok (.iload_n 1, 1) := by decide +kernel
theorem dX9_set_7 : decode cX9_set 7 = .ok (.invokevirtual 69, 3) := by decide +kernel
theorem dX9_set_10 : decode cX9_set 10 = .ok (.ifCond .eq 13, 3) := by decide +kernel
theorem dX9_set_13 : decode cX9_set 13 = .ok (.iload_n 2, 1) := by decide +kernel
theorem dX9_set_14 : decode cX9_set 14 = .ok (.iconst 0, 1) := by decide +kernel
theorem dX9_set_15 : decode cX9_set 15 = .ok (.bipush 15, 2) := by decide +kernel
theorem dX9_set_17 : decode cX9_set 17 = .ok (.invokestatic 65, 3) := by decide +kernel
theorem dX9_set_20 : decode cX9_set 20 = .ok (.ifCond .ne 5, 3) := by decide +kernel
theorem dX9_set_23 : decode cX9_set 23 = .ok (.iconst 0, 1) := by decide +kernel
theorem dX9_set_24 : decode cX9_set 24 = .ok (.ireturn, 1) := by decide +kernel
theorem dX9_set_25 : decode cX9_set 25 = .ok (.aload_n 0, 1) := by decide +kernel
theorem dX9_set_26 : decode cX9_set 26 = .ok (.getfield 27, 3) := by decide +kernel
theorem dX9_set_29 : decode cX9_set 29 = .ok (.bipush 16, 2) := by decide +kernel
theorem dX9_set_31 : decode cX9_set 31 = .ok (.iload_n 1, 1) := by decide +kernel
theorem dX9_set_32 : decode cX9_set 32 = .ok (.imul, 1) := by decide +kernel
theorem dX9_set_33 : decode cX9_set 33 = .ok (.iload_n 2, 1) := by decide +kernel
theorem dX9_set_34 : decode cX9_set 34 = .ok (.iadd, 1) := by decide +kernel
theorem dX9_set_35 : decode cX9_set 35 = .ok (.iload_n 3, 1) := by decide +kernel
theorem dX9_set_36 : decode cX9_set 36 = .ok (.iastore, 1) := by decide +kernel
theorem dX9_set_37 : decode cX9_set 37 = .ok (.iconst 1, 1) := by decide +kernel
theorem dX9_set_38 : decode cX9_set 38 = .ok (.ireturn, 1) := by decide +kernel
set_option maxRecDepth 20000 in
theorem ggX9_at_X9_isHost : GoodIn wsX9_at wsX9_isHost := goodIn_r _ [7, 8, 9, 10, 6, 11, 12, 13, 14, 15, 16, 17, 18, 19, 20, 21, 22, 23, 24, 25, 26, 27, 28, 29, 30] (by decide +kernel) (by decide +kernel)
set_option maxRecDepth 20000 in
theorem gX9_at_X9_isHost : GoodIn wsX9_at (wsV RX9 69 RX9 yX9_isHost wsX9_isHost) := goodIn_app (goodIn_of _ (by decide +kernel)) ggX9_at_X9_isHost
set_option maxRecDepth 20000 in
theorem ggX9_at_X9_in : GoodIn wsX9_at wsX9_in := goodIn_r _ [11] (by decide +kernel) (by decide +kernel)
set_option maxRecDepth 20000 in
theorem gX9_at_X9_in : GoodIn wsX9_at (va_wsS RX9 65 yX9_in wsX9_in) := goodIn_app (goodIn_of _ (by decide +kernel)) ggX9_at_X9_in
theorem dX9_at_0 : decode cX9_at 0 = .ok (.aload_n 0, 1) := by decide +kernel
theorem dX9_at_1 : decode cX9_at 1 = .ok (.iconst 0, 1) := by decide +kernel
theorem dX9_at_2 : decode cX9_at 2 = .ok (.putfield 62, 3) := by decide +kernel
theorem dX9_at_5 : decode cX9_at 5 = .ok (.aload_n 0, 1) := by decide +kernel
theorem dX9_at_6 : decode cX9_at 6 = .ok (.iload_n 1, 1) := by decide +kernel
theorem dX9_at_7 : decode cX9_at 7 = .ok (.invokevirtual 69, 3) := by decide +kernel
theorem dX9_at_10 : decode cX9_at 10 = .ok (.ifCond .eq 13, 3) := by decide +kernel
theorem dX9_at_13 : decode cX9_at 13 = .ok (.iload_n 2, 1) := by decide +kernel
theorem dX9_at_14 : decode cX9_at 14 = .ok (.iconst 0, 1) := by decide +kernel
theorem dX9_at_15 : decode cX9_at 15 = .ok (.bipush 15, 2) := by decide +kernel
theorem dX9_at_17 : decode cX9_at 17 = .ok (.invokestatic 65, 3) := by decide +kernel
theorem dX9_at_20 : decode cX9_at 20 = .ok (.ifCond .ne 10, 3) := by decide +kernel
theorem dX9_at_23 : decode cX9_at 23 = .ok (.aload_n 0, 1) := by decide +kernel
theorem dX9_at_24 : decode cX9_at 24 = .ok (.iconst 1, 1) := by decide +kernel
theorem dX9_at_25 : decode cX9_at 25 = .ok (.putfield 62, 3) := by decide +kernel
theorem dX9_at_28 : decode cX9_at 28 = .ok (.iconst 0, 1) := by decide +kernel
theorem dX9_at_29 : decode cX9_at 29 = .ok (.ireturn, 1) := by decide +kernel
theorem dX9_at_30 : decode cX9_at 30 = .ok (.aload_n 0, 1) := by decide +kernel
theorem dX9_at_31 : decode cX9_at 31 = .ok (.getfield 27, 3) := by decide +kernel
theorem dX9_at_34 : decode cX9_at 34 = .ok (.bipush 16, 2) := by decide +kernel
theorem dX9_at_36 : decode cX9_at 36 = .ok (.iload_n 1, 1) := by decide +kernel
theorem dX9_at_37 : decode cX9_at 37 = .ok (.imul, 1) := by decide +kernel
theorem dX9_at_38 : decode cX9_at 38 = .ok (.iload_n 2, 1) := by decide +kernel
theorem dX9_at_39 : decode cX9_at 39 = .ok (.iadd, 1) := by decide +kernel
theorem dX9_at_40 : decode cX9_at 40 = .ok (.iaload, 1) := by decide +kernel
theorem dX9_at_41 : decode cX9_at 41 = .ok (.ireturn, 1) := by decide +kernel
set_option maxRecDepth 20000 in
theorem ggX9_live_X9_isHost : GoodIn wsX9_live wsX9_isHost := goodIn_r _ [8, 9, 10, 11, 7, 12, 21, 22, 23, 24, 25, 26, 27, 28, 29, 30, 31, 32, 33, 34, 35, 36, 37, 38, 39] (by decide +kernel) (by decide +kernel)
set_option maxRecDepth 20000 in
theorem gX9_live_X9_isHost : GoodIn wsX9_live (wsV RX9 69 RX9 yX9_isHost wsX9_isHost) := goodIn_app (goodIn_of _ (by decide +kernel)) ggX9_live_X9_isHost
set_option maxRecDepth 20000 in
theorem ggX9_live_X9_isLive : GoodIn wsX9_live wsX9_isLive := goodIn_r _ [16, 2, 4, 5, 6, 7, 8, 9, 10, 11, 12, 21, 22, 23, 24, 25, 26, 27, 28, 29, 30, 31, 32, 33, 34, 35, 36, 37, 38, 39] (by decide +kernel) (by decide +kernel)
set_option maxRecDepth 20000 in
theorem gX9_live_X9_isLive : GoodIn wsX9_live (wsV RX9 94 RX9 yX9_isLive wsX9_isLive) := goodIn_app (goodIn_of _ (by decide +kernel)) ggX9_live_X9_isLive
set_option maxRecDepth 20000 in
theorem ggX9_live_X9_liveMany : GoodIn wsX9_live wsX9_liveMany := goodIn_r _ [20, 9, 2, 21, 22, 23, 24, 25, 26, 27, 28, 29, 30, 31, 32, 33, 34, 35, 36, 37, 38, 39] (by decide +kernel) (by decide +kernel)
set_option maxRecDepth 20000 in
theorem gX9_live_X9_liveMany : GoodIn wsX9_live (wsV RX9 97 RX9 yX9_liveMany wsX9_liveMany) := goodIn_app (goodIn_of _ (by decide +kernel)) ggX9_live_X9_liveMany
theorem dX9_live_0 : decode cX9_live 0 = .ok (.aload_n 0, 1) := by decide +kernel
theorem dX9_live_1 : decode cX9_live 1 = .ok (.iconst 0, 1) := by decide +kernel
theorem dX9_live_2 : decode cX9_live 2 = .ok (.putfield 62, 3) := by decide +kernel
theorem dX9_live_5 : decode cX9_live 5 = .ok (.aload_n 0, 1) := by decide +kernel
theorem dX9_live_6 : decode cX9_live 6 = .ok (.iload_n 1, 1) := by decide +kernel
theorem dX9_live_7 : decode cX9_live 7 = .ok (.invokevirtual 69, 3) := by decide +kernel
theorem dX9_live_10 : decode cX9_live 10 = .ok (.ifCond .eq 23, 3) := by decide +kernel
theorem dX9_live_13 : decode cX9_live 13 = .ok (.iload_n 2, 1) := by decide +kernel
theorem dX9_live_14 : decode cX9_live 14 = .ok (.ifCond .ne 21, 3) := by decide +kernel
theorem dX9_live_17 : decode cX9_live 17 = .ok (.aload_n 0, 1) := by decide +kernel
theorem dX9_live_18 : decode cX9_live 18 = .ok (.iload_n 1, 1) := by decide +kernel
theorem dX9_live_19 : decode cX9_live 19 = .ok (.invokevirtual 94, 3) := by decide +kernel
theorem dX9_live_22 : decode cX9_live 22 = .ok (.ifCond .eq 13, 3) := by decide +kernel
theorem dX9_live_25 : decode cX9_live 25 = .ok (.aload_n 0, 1) := by decide +kernel
theorem dX9_live_26 : decode cX9_live 26 = .ok (.invokevirtual 97, 3) := by decide +kernel
theorem dX9_live_29 : decode cX9_live 29 = .ok (.iconst 1, 1) := by decide +kernel
theorem dX9_live_30 : decode cX9_live 30 = .ok (.if_icmp .ne 5, 3) := by decide +kernel
theorem dX9_live_33 : decode cX9_live 33 = .ok (.iconst 0, 1) := by decide +kernel
theorem dX9_live_34 : decode cX9_live 34 = .ok (.ireturn, 1) := by decide +kernel
theorem dX9_live_35 : decode cX9_live 35 = .ok (.aload_n 0, 1) := by decide +kernel
theorem dX9_live_36 : decode cX9_live 36 = .ok (.getfield 13, 3) := by decide +kernel
theorem dX9_live_39 : decode cX9_live 39 = .ok (.iload_n 1, 1) := by decide +kernel
theorem dX9_live_40 : decode cX9_live 40 = .ok (.iload_n 2, 1) := by decide +kernel
theorem dX9_live_41 : decode cX9_live 41 = .ok (.ifCond .ne 7, 3) := by decide +kernel
theorem dX9_live_44 : decode cX9_live 44 = .ok (.iconst 1, 1) := by decide +kernel
theorem dX9_live_45 : decode cX9_live 45 = .ok (.goto 4, 3) := by decide +kernel
theorem dX9_live_48 : decode cX9_live 48 = .ok (.iconst 0, 1) := by decide +kernel
theorem dX9_live_49 : decode cX9_live 49 = .ok (.bastore, 1) := by decide +kernel
theorem dX9_live_50 : decode cX9_live 50 = .ok (.aload_n 0, 1) := by decide +kernel
theorem dX9_live_51 : decode cX9_live 51 = .ok (.iconst 0, 1) := by decide +kernel
theorem dX9_live_52 : decode cX9_live 52 = .ok (.putfield 73, 3) := by decide +kernel
theorem dX9_live_55 : decode cX9_live 55 = .ok (.iconst 1, 1) := by decide +kernel
theorem dX9_live_56 : decode cX9_live 56 = .ok (.ireturn, 1) := by decide +kernel
set_option maxRecDepth 20000 in
theorem ggX9_late_X9_isHost : GoodIn wsX9_late wsX9_isHost := goodIn_r _ [8, 9, 10, 11, 7, 12, 13, 14, 15, 16, 17, 18, 19, 20, 21, 22, 23, 24, 25, 26, 27, 28, 29, 30, 31] (by decide +kernel) (by decide +kernel)
set_option maxRecDepth 20000 in
theorem gX9_late_X9_isHost : GoodIn wsX9_late (wsV RX9 69 RX9 yX9_isHost wsX9_isHost) := goodIn_app (goodIn_of _ (by decide +kernel)) ggX9_late_X9_isHost
set_option maxRecDepth 20000 in
theorem ggX9_late_X9_in : GoodIn wsX9_late wsX9_in := goodIn_r _ [12] (by decide +kernel) (by decide +kernel)
set_option maxRecDepth 20000 in
theorem gX9_late_X9_in : GoodIn wsX9_late (va_wsS RX9 65 yX9_in wsX9_in) := goodIn_app (goodIn_of _ (by decide +kernel)) ggX9_late_X9_in
theorem dX9_late_0 : decode cX9_late 0 = .ok (.aload_n 0, 1) := by decide +kernel
theorem dX9_late_1 : decode cX9_late 1 = .ok (.iconst 0, 1) := by decide +kernel
theorem dX9_late_2 : decode cX9_late 2 = .ok (.putfield 62, 3) := by decide +kernel
theorem dX9_late_5 : decode cX9_late 5 = .ok (.aload_n 0, 1) := by decide +kernel
theorem dX9_late_6 : decode cX9_late 6 = .ok (.iload_n 1, 1) := by decide +kernel
theorem dX9_late_7 : decode cX9_late 7 = .ok (.invokevirtual 69, 3) := by decide +kernel
theorem dX9_late_10 : decode cX9_late 10 = .ok (.ifCond .eq 13, 3) := by decide +kernel
theorem dX9_late_13 : decode cX9_late 13 = .ok (.iload_n 2, 1) := by decide +kernel
theorem dX9_late_14 : decode cX9_late 14 = .ok (.iconst 0, 1) := by decide +kernel
theorem dX9_late_15 : decode cX9_late 15 = .ok (.ldc 100, 2) := by decide +kernel
theorem dX9_late_17 : decode cX9_late 17 = .ok (.invokestatic 65, 3) := by decide +kernel
theorem dX9_late_20 : decode cX9_late 20 = .ok (.ifCond .ne 5, 3) := by decide +kernel
theorem dX9_late_23 : decode cX9_late 23 = .ok (.iconst 0, 1) := by decide +kernel
theorem dX9_late_24 : decode cX9_late 24 = .ok (.ireturn, 1) := by decide +kernel
theorem dX9_late_25 : decode cX9_late 25 = .ok (.aload_n 0, 1) := by decide +kernel
theorem dX9_late_26 : decode cX9_late 26 = .ok (.getfield 17, 3) := by decide +kernel
theorem dX9_late_29 : decode cX9_late 29 = .ok (.iload_n 1, 1) := by decide +kernel
theorem dX9_late_30 : decode cX9_late 30 = .ok (.iload_n 2, 1) := by decide +kernel
theorem dX9_late_31 : decode cX9_late 31 = .ok (.iastore, 1) := by decide +kernel
theorem dX9_late_32 : decode cX9_late 32 = .ok (.iconst 1, 1) := by decide +kernel
theorem dX9_late_33 : decode cX9_late 33 = .ok (.ireturn, 1) := by decide +kernel
theorem dX9_stepsOf_0 : decode cX9_stepsOf 0 = .ok (.iconst 0, 1) := by decide +kernel
theorem dX9_stepsOf_1 : decode cX9_stepsOf 1 = .ok (.istore_n 2, 1) := by decide +kernel
theorem dX9_stepsOf_2 : decode cX9_stepsOf 2 = .ok (.iconst 0, 1) := by decide +kernel
theorem dX9_stepsOf_3 : decode cX9_stepsOf 3 = .ok (.istore_n 3, 1) := by decide +kernel
theorem dX9_stepsOf_4 : decode cX9_stepsOf 4 = .ok (.iload_n 3, 1) := by decide +kernel
theorem dX9_stepsOf_5 : decode cX9_stepsOf 5 = .ok (.iload_n 1, 1) := by decide +kernel
theorem dX9_stepsOf_6 : decode cX9_stepsOf 6 = .ok (.if_icmp .ge 34, 3) := by decide +kernel
theorem dX9_stepsOf_9 : decode cX9_stepsOf 9 = .ok (.aload_n 0, 1) := by decide +kernel
theorem dX9_stepsOf_10 : decode cX9_stepsOf 10 = .ok (.bipush 6, 2) := by decide +kernel
theorem dX9_stepsOf_12 : decode cX9_stepsOf 12 = .ok (.iload_n 3, 1) := by decide +kernel
theorem dX9_stepsOf_13 : decode cX9_stepsOf 13 = .ok (.imul, 1) := by decide +kernel
theorem dX9_stepsOf_14 : decode cX9_stepsOf 14 = .ok (.iaload, 1) := by decide +kernel
theorem dX9_stepsOf_15 : decode cX9_stepsOf 15 = .ok (.iconst 1, 1) := by decide +kernel
theorem dX9_stepsOf_16 : decode cX9_stepsOf 16 = .ok (.iadd, 1) := by decide +kernel
theorem dX9_stepsOf_17 : decode cX9_stepsOf 17 = .ok (.iload_n 2, 1) := by decide +kernel
theorem dX9_stepsOf_18 : decode cX9_stepsOf 18 = .ok (.if_icmp .le 14, 3) := by decide +kernel
theorem dX9_stepsOf_21 : decode cX9_stepsOf 21 = .ok (.aload_n 0, 1) := by decide +kernel
theorem dX9_stepsOf_22 : decode cX9_stepsOf 22 = .ok (.bipush 6, 2) := by decide +kernel
theorem dX9_stepsOf_24 : decode cX9_stepsOf 24 = .ok (.iload_n 3, 1) := by decide +kernel
theorem dX9_stepsOf_25 : decode cX9_stepsOf 25 = .ok (.imul, 1) := by decide +kernel
theorem dX9_stepsOf_26 : decode cX9_stepsOf 26 = .ok (.iaload, 1) := by decide +kernel
theorem dX9_stepsOf_27 : decode cX9_stepsOf 27 = .ok (.iconst 1, 1) := by decide +kernel
theorem dX9_stepsOf_28 : decode cX9_stepsOf 28 = .ok (.iadd, 1) := by decide +kernel
theorem dX9_stepsOf_29 : decode cX9_stepsOf 29 = .ok (.goto 4, 3) := by decide +kernel
theorem dX9_stepsOf_32 : decode cX9_stepsOf 32 = .ok (.iload_n 2, 1) := by decide +kernel
theorem dX9_stepsOf_33 : decode cX9_stepsOf 33 = .ok (.istore_n 2, 1) := by decide +kernel
theorem dX9_stepsOf_34 : decode cX9_stepsOf 34 = .ok (.iinc 3 1, 3) := by decide +kernel
theorem dX9_stepsOf_37 : decode cX9_stepsOf 37 = .ok (.goto (-33), 3) := by decide +kernel
theorem dX9_stepsOf_40 : decode cX9_stepsOf 40 = .ok (.iload_n 2, 1) := by decide +kernel
theorem dX9_stepsOf_41 : decode cX9_stepsOf 41 = .ok (.ireturn, 1) := by decide +kernel
theorem dX9_letter_0 : decode cX9_letter 0 = .ok (.iconst 0, 1) := by decide +kernel
theorem dX9_letter_1 : decode cX9_letter 1 = .ok (.istore 5, 2) := by decide +kernel
theorem dX9_letter_3 : decode cX9_letter 3 = .ok (.iconst 0, 1) := by decide +kernel
theorem dX9_letter_4 : decode cX9_letter 4 = .ok (.istore 6, 2) := by decide +kernel
theorem dX9_letter_6 : decode cX9_letter 6 = .ok (.iload 6, 2) := by decide +kernel
theorem dX9_letter_8 : decode cX9_letter 8 = .ok (.iload_n 1, 1) := by decide +kernel
theorem dX9_letter_9 : decode cX9_letter 9 = .ok (.if_icmp .ge 50, 3) := by decide +kernel
theorem dX9_letter_12 : decode cX9_letter 12 = .ok (.aload_n 0, 1) := by decide +kernel
theorem dX9_letter_13 : decode cX9_letter 13 = .ok (.bipush 6, 2) := by decide +kernel
theorem dX9_letter_15 : decode cX9_letter 15 = .ok (.iload 6, 2) := by decide +kernel
theorem dX9_letter_17 : decode cX9_letter 17 = .ok (.imul, 1) := by decide +kernel
theorem dX9_letter_18 : decode cX9_letter 18 = .ok (.iaload, 1) := by decide +kernel
theorem dX9_letter_19 : decode cX9_letter 19 = .ok (.iload_n 2, 1) := by decide +kernel
theorem dX9_letter_20 : decode cX9_letter 20 = .ok (.if_icmp .ne 33, 3) := by decide +kernel
theorem dX9_letter_23 : decode cX9_letter 23 = .ok (.aload_n 0, 1) := by decide +kernel
theorem dX9_letter_24 : decode cX9_letter 24 = .ok (.bipush 6, 2) := by decide +kernel
theorem dX9_letter_26 : decode cX9_letter 26 = .ok (.iload 6, 2) := by decide +kernel
theorem dX9_letter_28 : decode cX9_letter 28 = .ok (.imul, 1) := by decide +kernel
theorem dX9_letter_29 : decode cX9_letter 29 = .ok (.iconst 1, 1) := by decide +kernel
theorem dX9_letter_30 : decode cX9_letter 30 = .ok (.iadd, 1) := by decide +kernel
theorem dX9_letter_31 : decode cX9_letter 31 = .ok (.iaload, 1) := by decide +kernel
theorem dX9_letter_32 : decode cX9_letter 32 = .ok (.iload_n 3, 1) := by decide +kernel
theorem dX9_letter_33 : decode cX9_letter 33 = .ok (.if_icmp .ne 20, 3) := by decide +kernel
theorem dX9_letter_36 : decode cX9_letter 36 = .ok (.aload_n 0, 1) := by decide +kernel
theorem dX9_letter_37 : decode cX9_letter 37 = .ok (.bipush 6, 2) := by decide +kernel
theorem dX9_letter_39 : decode cX9_letter 39 = .ok (.iload 6, 2) := by decide +kernel
theorem dX9_letter_41 : decode cX9_letter 41 = .ok (.imul, 1) := by decide +kernel
theorem dX9_letter_42 : decode cX9_letter 42 = .ok (.iconst 2, 1) := by decide +kernel
theorem dX9_letter_43 : decode cX9_letter 43 = .ok (.iadd, 1) := by decide +kernel
theorem dX9_letter_44 : decode cX9_letter 44 = .ok (.iaload, 1) := by decide +kernel
theorem dX9_letter_45 : decode cX9_letter 45 = .ok (.iload 4, 2) := by decide +kernel
theorem dX9_letter_47 : decode cX9_letter 47 = .ok (.if_icmp .ne 6, 3) := by decide +kernel
theorem dX9_letter_50 : decode cX9_letter 50 = .ok (.iinc 5 1, 3) := by decide +kernel
theorem dX9_letter_53 : decode cX9_letter 53 = .ok (.iinc 6 1, 3) := by decide +kernel
theorem dX9_letter_56 : decode cX9_letter 56 = .ok (.goto (-50), 3) := by decide +kernel
theorem dX9_letter_59 : decode cX9_letter 59 = .ok (.iload 5, 2) := by decide +kernel
theorem dX9_letter_61 : decode cX9_letter 61 = .ok (.ireturn, 1) := by decide +kernel
theorem dX9_letters_0 : decode cX9_letters 0 = .ok (.iconst 0, 1) := by decide +kernel
theorem dX9_letters_1 : decode cX9_letters 1 = .ok (.istore_n 1, 1) := by decide +kernel
theorem dX9_letters_2 : decode cX9_letters 2 = .ok (.iconst 0, 1) := by decide +kernel
theorem dX9_letters_3 : decode cX9_letters 3 = .ok (.istore_n 2, 1) := by decide +kernel
theorem dX9_letters_4 : decode cX9_letters 4 = .ok (.iload_n 2, 1) := by decide +kernel
theorem dX9_letters_5 : decode cX9_letters 5 = .ok (.aload_n 0, 1) := by decide +kernel
theorem dX9_letters_6 : decode cX9_letters 6 = .ok (.getfield 73, 3) := by decide +kernel
theorem dX9_letters_9 : decode cX9_letters 9 = .ok (.if_icmp .ge 91, 3) := by decide +kernel
theorem dX9_letters_12 : decode cX9_letters 12 = .ok (.iconst 1, 1) := by decide +kernel
theorem dX9_letters_13 : decode cX9_letters 13 = .ok (.istore_n 3, 1) := by decide +kernel
theorem dX9_letters_14 : decode cX9_letters 14 = .ok (.iconst 0, 1) := by decide +kernel
theorem dX9_letters_15 : decode cX9_letters 15 = .ok (.istore 4, 2) := by decide +kernel
theorem dX9_letters_17 : decode cX9_letters 17 = .ok (.iload 4, 2) := by decide +kernel
theorem dX9_letters_19 : decode cX9_letters 19 = .ok (.iload_n 2, 1) := by decide +kernel
theorem dX9_letters_20 : decode cX9_letters 20 = .ok (.if_icmp .ge 67, 3) := by decide +kernel
theorem dX9_letters_23 : decode cX9_letters 23 = .ok (.iload_n 3, 1) := by decide +kernel
theorem dX9_letters_24 : decode cX9_letters 24 = .ok (.ifCond .eq 55, 3) := by decide +kernel
theorem dX9_letters_27 : decode cX9_letters 27 = .ok (.aload_n 0, 1) := by decide +kernel
theorem dX9_letters_28 : decode cX9_letters 28 = .ok (.getfield 30, 3) := by decide +kernel
theorem dX9_letters_31 : decode cX9_letters 31 = .ok (.bipush 6, 2) := by decide +kernel
theorem dX9_letters_33 : decode cX9_letters 33 = .ok (.iload 4, 2) := by decide +kernel
theorem dX9_letters_35 : decode cX9_letters 35 = .ok (.imul, 1) := by decide +kernel
theorem dX9_letters_36 : decode cX9_letters 36 = .ok (.iaload, 1) := by decide +kernel
theorem dX9_letters_37 : decode cX9_letters 37 = .ok (.aload_n 0, 1) := by decide +kernel
theorem dX9_letters_38 : decode cX9_letters 38 = .ok (.getfield 30, 3) := by decide +kernel
theorem dX9_letters_41 : decode cX9_letters 41 = .ok (.bipush 6, 2) := by decide +kernel
theorem dX9_letters_43 : decode cX9_letters 43 = .ok (.iload_n 2, 1) := by decide +kernel
theorem dX9_letters_44 : decode cX9_letters 44 = .ok (.imul, 1) := by decide +kernel
theorem dX9_letters_45 : decode cX9_letters 45 = .ok (.iaload, 1) := by decide +kernel
theorem dX9_letters_46 : decode cX9_letters 46 = .ok (.if_icmp .ne 29, 3) := by decide +kernel
theorem dX9_letters_49 : decode cX9_letters 49 = .ok (.aload_n 0, 1) := by decide +kernel
theorem dX9_letters_50 : decode cX9_letters 50 = .ok (.getfield 30, 3) := by decide +kernel
theorem dX9_letters_53 : decode cX9_letters 53 = .ok (.bipush 6, 2) := by decide +kernel
theorem dX9_letters_55 : decode cX9_letters 55 = .ok (.iload 4, 2) := by decide +kernel
theorem dX9_letters_57 : decode cX9_letters 57 = .ok (.imul, 1) := by decide +kernel
theorem dX9_letters_58 : decode cX9_letters 58 = .ok (.iconst 1, 1) := by decide +kernel
theorem dX9_letters_59 : decode cX9_letters 59 = .ok (.iadd, 1) := by decide +kernel
theorem dX9_letters_60 : decode cX9_letters 60 = .ok (.iaload, 1) := by decide +kernel
theorem dX9_letters_61 : decode cX9_letters 61 = .ok (.aload_n 0, 1) := by decide +kernel
theorem dX9_letters_62 : decode cX9_letters 62 = .ok (.getfield 30, 3) := by decide +kernel
theorem dX9_letters_65 : decode cX9_letters 65 = .ok (.bipush 6, 2) := by decide +kernel
theorem dX9_letters_67 : decode cX9_letters 67 = .ok (.iload_n 2, 1) := by decide +kernel
theorem dX9_letters_68 : decode cX9_letters 68 = .ok (.imul, 1) := by decide +kernel
theorem dX9_letters_69 : decode cX9_letters 69 = .ok (.iconst 1, 1) := by decide +kernel
theorem dX9_letters_70 : decode cX9_letters 70 = .ok (.iadd, 1) := by decide +kernel
theorem dX9_letters_71 : decode cX9_letters 71 = .ok (.iaload, 1) := by decide +kernel
theorem dX9_letters_72 : decode cX9_letters 72 = .ok (.if_icmp .eq 7, 3) := by decide +kernel
theorem dX9_letters_75 : decode cX9_letters 75 = .ok (.iconst 1, 1) := by decide +kernel
theorem dX9_letters_76 : decode cX9_letters 76 = .ok (.goto 4, 3) := by decide +kernel
theorem dX9_letters_79 : decode cX9_letters 79 = .ok (.iconst 0, 1) := by decide +kernel
theorem dX9_letters_80 : decode cX9_letters 80 = .ok (.istore_n 3, 1) := by decide +kernel
theorem dX9_letters_81 : decode cX9_letters 81 = .ok (.iinc 4 1, 3) := by decide +kernel
theorem dX9_letters_84 : decode cX9_letters 84 = .ok (.goto (-67), 3) := by decide +kernel
theorem dX9_letters_87 : decode cX9_letters 87 = .ok (.iload_n 3, 1) := by decide +kernel
theorem dX9_letters_88 : decode cX9_letters 88 = .ok (.ifCond .eq 6, 3) := by decide +kernel
theorem dX9_letters_91 : decode cX9_letters 91 = .ok (.iinc 1 1, 3) := by decide +kernel
theorem dX9_letters_94 : decode cX9_letters 94 = .ok (.iinc 2 1, 3) := by decide +kernel
theorem dX9_letters_97 : decode cX9_letters 97 = .ok (.goto (-93), 3) := by decide +kernel
theorem dX9_letters_100 : decode cX9_letters 100 = .ok (.iload_n 1, 1) := by decide +kernel
theorem dX9_letters_101 : decode cX9_letters 101 = .ok (.ireturn, 1) := by decide +kernel
set_option maxRecDepth 20000 in
theorem ggX9_count_X9_liveMany : GoodIn wsX9_count wsX9_liveMany := goodIn_r _ [9, 2, 10, 27, 28, 29, 30, 31, 32, 33, 34, 35, 36, 37, 38, 39, 40, 41, 42, 43, 44, 45] (by decide +kernel) (by decide +kernel)
set_option maxRecDepth 20000 in
theorem gX9_count_X9_liveMany : GoodIn wsX9_count (wsV RX9 97 RX9 yX9_liveMany wsX9_liveMany) := goodIn_app (goodIn_of _ (by decide +kernel)) ggX9_count_X9_liveMany
set_option maxRecDepth 20000 in
theorem ggX9_count_X9_lines : GoodIn wsX9_count wsX9_lines := goodIn_r _ [14, 2, 15, 16, 17, 8, 18, 19, 27, 28, 29, 30, 31, 32, 33, 34, 35, 36, 37, 38, 39, 40, 41, 42, 43, 44, 45] (by decide +kernel) (by decide +kernel)
set_option maxRecDepth 20000 in
theorem gX9_count_X9_lines : GoodIn wsX9_count (wsV RX9 90 RX9 yX9_lines wsX9_lines) := goodIn_app (goodIn_of _ (by decide +kernel)) ggX9_count_X9_lines
set_option maxRecDepth 20000 in
theorem ggX9_count_X9_stepsOf : GoodIn wsX9_count wsX9_stepsOf := goodIn_r _ [22] (by decide +kernel) (by decide +kernel)
set_option maxRecDepth 20000 in
theorem gX9_count_X9_stepsOf : GoodIn wsX9_count (va_wsS RX9 101 yX9_stepsOf wsX9_stepsOf) := goodIn_app (goodIn_of _ (by decide +kernel)) ggX9_count_X9_stepsOf
set_option maxRecDepth 20000 in
theorem ggX9_count_X9_letters : GoodIn wsX9_count wsX9_letters := goodIn_r _ [26, 3, 4, 27, 28, 29, 30, 31, 32, 33, 34, 35, 36, 37, 38, 39, 40, 41, 42, 43, 44, 45] (by decide +kernel) (by decide +kernel)
set_option maxRecDepth 20000 in
theorem gX9_count_X9_letters : GoodIn wsX9_count (wsV RX9 105 RX9 yX9_letters wsX9_letters) := goodIn_app (goodIn_of _ (by decide +kernel)) ggX9_count_X9_letters
theorem dX9_count_0 : decode cX9_count 0 = .ok (.aload_n 0, 1) := by decide +kernel
theorem dX9_count_1 : decode cX9_count 1 = .ok (.iconst 0, 1) := by decide +kernel
theorem dX9_count_2 : decode cX9_count 2 = .ok (.putfield 62, 3) := by decide +kernel
theorem dX9_count_5 : decode cX9_count 5 = .ok (.iload_n 1, 1) := by decide +kernel
theorem dX9_count_6 : decode cX9_count 6 = .ok (.tableswitch 75 0 5 #[38, 43, 48, 53, 58, 70], 38) := by decide +kernel
theorem dX9_count_44 : decode cX9_count 44 = .ok (.aload_n 0, 1) := by decide +kernel
theorem dX9_count_45 : decode cX9_count 45 = .ok (.getfield 9, 3) := by decide +kernel
theorem dX9_count_48 : decode cX9_count 48 = .ok (.ireturn, 1) := by decide +kernel
theorem dX9_count_49 : decode cX9_count 49 = .ok (.aload_n 0, 1) := by decide +kernel
theorem dX9_count_50 : decode cX9_count 50 = .ok (.invokevirtual 97, 3) := by decide +kernel
theorem dX9_count_53 : decode cX9_count 53 = .ok (.ireturn, 1) := by decide +kernel
theorem dX9_count_54 : decode cX9_count 54 = .ok (.aload_n 0, 1) := by decide +kernel
theorem dX9_count_55 : decode cX9_count 55 = .ok (.invokevirtual 90, 3) := by decide +kernel
theorem dX9_count_58 : decode cX9_count 58 = .ok (.ireturn, 1) := by decide +kernel
theorem dX9_count_59 : decode cX9_count 59 = .ok (.aload_n 0, 1) := by decide +kernel
theorem dX9_count_60 : decode cX9_count 60 = .ok (.getfield 73, 3) := by decide +kernel
theorem dX9_count_63 : decode cX9_count 63 = .ok (.ireturn, 1) := by decide +kernel
theorem dX9_count_64 : decode cX9_count 64 = .ok (.aload_n 0, 1) := by decide +kernel
theorem dX9_count_65 : decode cX9_count 65 = .ok (.getfield 30, 3) := by decide +kernel
theorem dX9_count_68 : decode cX9_count 68 = .ok (.aload_n 0, 1) := by decide +kernel
theorem dX9_count_69 : decode cX9_count 69 = .ok (.getfield 73, 3) := by decide +kernel
theorem dX9_count_72 : decode cX9_count 72 = .ok (.invokestatic 101, 3) := by decide +kernel
theorem dX9_count_75 : decode cX9_count 75 = .ok (.ireturn, 1) := by decide +kernel
theorem dX9_count_76 : decode cX9_count 76 = .ok (.aload_n 0, 1) := by decide +kernel
theorem dX9_count_77 : decode cX9_count 77 = .ok (.invokevirtual 105, 3) := by decide +kernel
theorem dX9_count_80 : decode cX9_count 80 = .ok (.ireturn, 1) := by decide +kernel
theorem dX9_count_81 : decode cX9_count 81 = .ok (.iconst (-1), 1) := by decide +kernel
theorem dX9_count_82 : decode cX9_count 82 = .ok (.ireturn, 1) := by decide +kernel
set_option maxRecDepth 20000 in
theorem ggX9_put_X9_hostOf : GoodIn wsX9_put wsX9_hostOf := goodIn_r _ [8, 9, 15, 16, 17, 18, 19, 20, 21, 22, 23, 24, 25, 26, 27, 28, 29, 30, 31, 32, 33] (by decide +kernel) (by decide +kernel)
set_option maxRecDepth 20000 in
theorem gX9_put_X9_hostOf : GoodIn wsX9_put (wsV RX9 108 RX9 yX9_hostOf wsX9_hostOf) := goodIn_app (goodIn_of _ (by decide +kernel)) ggX9_put_X9_hostOf
set_option maxRecDepth 20000 in
theorem ggX9_put_X9_areJoined : GoodIn wsX9_put wsX9_areJoined := goodIn_r _ [13, 14, 15, 16, 17, 18, 19, 20, 21, 22, 23, 24, 25, 26, 27, 28, 29, 30, 31, 32, 33] (by decide +kernel) (by decide +kernel)
set_option maxRecDepth 20000 in
theorem gX9_put_X9_areJoined : GoodIn wsX9_put (wsV RX9 80 RX9 yX9_areJoined wsX9_areJoined) := goodIn_app (goodIn_of _ (by decide +kernel)) ggX9_put_X9_areJoined
theorem dX9_put_0 : decode cX9_put 0 = .ok (.aload_n 0, 1) := by decide +kernel
theorem dX9_put_1 : decode cX9_put 1 = .ok (.iload_n 2, 1) := by decide +kernel
theorem dX9_put_2 : decode cX9_put 2 = .ok (.iload 6, 2) := by decide +kernel
theorem dX9_put_4 : decode cX9_put 4 = .ok (.iadd, 1) := by decide +kernel
theorem dX9_put_5 : decode cX9_put 5 = .ok (.iload 6, 2) := by decide +kernel
theorem dX9_put_7 : decode cX9_put 7 = .ok (.irem, 1) := by decide +kernel
theorem dX9_put_8 : decode cX9_put 8 = .ok (.invokevirtual 108, 3) := by decide +kernel
theorem dX9_put_11 : decode cX9_put 11 = .ok (.istore 8, 2) := by decide +kernel
theorem dX9_put_13 : decode cX9_put 13 = .ok (.aload_n 0, 1) := by decide +kernel
theorem dX9_put_14 : decode cX9_put 14 = .ok (.iload_n 3, 1) := by decide +kernel
theorem dX9_put_15 : decode cX9_put 15 = .ok (.iload 6, 2) := by decide +kernel
theorem dX9_put_17 : decode cX9_put 17 = .ok (.iadd, 1) := by decide +kernel
theorem dX9_put_18 : decode cX9_put 18 = .ok (.iload 6, 2) := by decide +kernel
theorem dX9_put_20 : decode cX9_put 20 = .ok (.irem, 1) := by decide +kernel
theorem dX9_put_21 : decode cX9_put 21 = .ok (.invokevirtual 108, 3) := by decide +kernel
theorem dX9_put_24 : decode cX9_put 24 = .ok (.istore 9, 2) := by decide +kernel
theorem dX9_put_26 : decode cX9_put 26 = .ok (.aload_n 0, 1) := by decide +kernel
theorem dX9_put_27 : decode cX9_put 27 = .ok (.iload 8, 2) := by decide +kernel
theorem dX9_put_29 : decode cX9_put 29 = .ok (.iload 9, 2) := by decide +kernel
theorem dX9_put_31 : decode cX9_put 31 = .ok (.invokevirtual 80, 3) := by decide +kernel
theorem dX9_put_34 : decode cX9_put 34 = .ok (.ifCond .ne 8, 3) := by decide +kernel
theorem dX9_put_37 : decode cX9_put 37 = .ok (.aload_n 0, 1) := by decide +kernel
theorem dX9_put_38 : decode cX9_put 38 = .ok (.iconst 1, 1) := by decide +kernel
theorem dX9_put_39 : decode cX9_put 39 = .ok (.putfield 111, 3) := by decide +kernel
theorem dX9_put_42 : decode cX9_put 42 = .ok (.iconst 0, 1) := by decide +kernel
theorem dX9_put_43 : decode cX9_put 43 = .ok (.istore 10, 2) := by decide +kernel
theorem dX9_put_45 : decode cX9_put 45 = .ok (.iload 10, 2) := by decide +kernel
theorem dX9_put_47 : decode cX9_put 47 = .ok (.iload 5, 2) := by decide +kernel
theorem dX9_put_49 : decode cX9_put 49 = .ok (.if_icmp .ge 105, 3) := by decide +kernel
theorem dX9_put_52 : decode cX9_put 52 = .ok (.bipush 6, 2) := by decide +kernel
theorem dX9_put_54 : decode cX9_put 54 = .ok (.aload_n 0, 1) := by decide +kernel
theorem dX9_put_55 : decode cX9_put 55 = .ok (.getfield 115, 3) := by decide +kernel
theorem dX9_put_58 : decode cX9_put 58 = .ok (.imul, 1) := by decide +kernel
theorem dX9_put_59 : decode cX9_put 59 = .ok (.istore 11, 2) := by decide +kernel
theorem dX9_put_61 : decode cX9_put 61 = .ok (.aload_n 0, 1) := by decide +kernel
theorem dX9_put_62 : decode cX9_put 62 = .ok (.getfield 33, 3) := by decide +kernel
theorem dX9_put_65 : decode cX9_put 65 = .ok (.iload 11, 2) := by decide +kernel
theorem dX9_put_67 : decode cX9_put 67 = .ok (.iload_n 1, 1) := by decide +kernel
theorem dX9_put_68 : decode cX9_put 68 = .ok (.iastore, 1) := by decide +kernel
theorem dX9_put_69 : decode cX9_put 69 = .ok (.aload_n 0, 1) := by decide +kernel
theorem dX9_put_70 : decode cX9_put 70 = .ok (.getfield 33, 3) := by decide +kernel
theorem dX9_put_73 : decode cX9_put 73 = .ok (.iload 11, 2) := by decide +kernel
theorem dX9_put_75 : decode cX9_put 75 = .ok (.iconst 1, 1) := by decide +kernel
theorem dX9_put_76 : decode cX9_put 76 = .ok (.iadd, 1) := by decide +kernel
theorem dX9_put_77 : decode cX9_put 77 = .ok (.iload 8, 2) := by decide +kernel
theorem dX9_put_79 : decode cX9_put 79 = .ok (.iastore, 1) := by decide +kernel
theorem dX9_put_80 : decode cX9_put 80 = .ok (.aload_n 0, 1) := by decide +kernel
theorem dX9_put_81 : decode cX9_put 81 = .ok (.getfield 33, 3) := by decide +kernel
theorem dX9_put_84 : decode cX9_put 84 = .ok (.iload 11, 2) := by decide +kernel
theorem dX9_put_86 : decode cX9_put 86 = .ok (.iconst 2, 1) := by decide +kernel
theorem dX9_put_87 : decode cX9_put 87 = .ok (.iadd, 1) := by decide +kernel
theorem dX9_put_88 : decode cX9_put 88 = .ok (.iload 9, 2) := by decide +kernel
theorem dX9_put_90 : decode cX9_put 90 = .ok (.iastore, 1) := by decide +kernel
theorem dX9_put_91 : decode cX9_put 91 = .ok (.aload_n 0, 1) := by decide +kernel
theorem dX9_put_92 : decode cX9_put 92 = .ok (.getfield 33, 3) := by decide +kernel
theorem dX9_put_95 : decode cX9_put 95 = .ok (.iload 11, 2) := by decide +kernel
theorem dX9_put_97 : decode cX9_put 97 = .ok (.iconst 3, 1) := by decide +kernel
theorem dX9_put_98 : decode cX9_put 98 = .ok (.iadd, 1) := by decide +kernel
theorem dX9_put_99 : decode cX9_put 99 = .ok (.iload 4, 2) := by decide +kernel
theorem dX9_put_101 : decode cX9_put 101 = .ok (.iload 10, 2) := by decide +kernel
theorem dX9_put_103 : decode cX9_put 103 = .ok (.iadd, 1) := by decide +kernel
theorem dX9_put_104 : decode cX9_put 104 = .ok (.iastore, 1) := by decide +kernel
theorem dX9_put_105 : decode cX9_put 105 = .ok (.aload_n 0, 1) := by decide +kernel
theorem dX9_put_106 : decode cX9_put 106 = .ok (.getfield 33, 3) := by decide +kernel
theorem dX9_put_109 : decode cX9_put 109 = .ok (.iload 11, 2) := by decide +kernel
theorem dX9_put_111 : decode cX9_put 111 = .ok (.iconst 4, 1) := by decide +kernel
theorem dX9_put_112 : decode cX9_put 112 = .ok (.iadd, 1) := by decide +kernel
theorem dX9_put_113 : decode cX9_put 113 = .ok (.iload 4, 2) := by decide +kernel
theorem dX9_put_115 : decode cX9_put 115 = .ok (.iload 10, 2) := by decide +kernel
theorem dX9_put_117 : decode cX9_put 117 = .ok (.iadd, 1) := by decide +kernel
theorem dX9_put_118 : decode cX9_put 118 = .ok (.iastore, 1) := by decide +kernel
theorem dX9_put_119 : decode cX9_put 119 = .ok (.aload_n 0, 1) := by decide +kernel
theorem dX9_put_120 : decode cX9_put 120 = .ok (.getfield 33, 3) := by decide +kernel
theorem dX9_put_123 : decode cX9_put 123 = .ok (.iload 11, 2) := by decide +kernel
theorem dX9_put_125 : decode cX9_put 125 = .ok (.iconst 5, 1) := by decide +kernel
theorem dX9_put_126 : decode cX9_put 126 = .ok (.iadd, 1) := by decide +kernel
theorem dX9_put_127 : decode cX9_put 127 = .ok (.iload 7, 2) := by decide +kernel
theorem dX9_put_129 : decode cX9_put 129 = .ok (.ifCond .eq 7, 3) := by decide +kernel
theorem dX9_put_132 : decode cX9_put 132 = .ok (.iconst 1, 1) := by decide +kernel
theorem dX9_put_133 : decode cX9_put 133 = .ok (.goto 4, 3) := by decide +kernel
theorem dX9_put_136 : decode cX9_put 136 = .ok (.iconst 0, 1) := by decide +kernel
theorem dX9_put_137 : decode cX9_put 137 = .ok (.iastore, 1) := by decide +kernel
theorem dX9_put_138 : decode cX9_put 138 = .ok (.aload_n 0, 1) := by decide +kernel
theorem dX9_put_139 : decode cX9_put 139 = .ok (.dup, 1) := by decide +kernel
theorem dX9_put_140 : decode cX9_put 140 = .ok (.getfield 115, 3) := by decide +kernel
theorem dX9_put_143 : decode cX9_put 143 = .ok (.iconst 1, 1) := by decide +kernel
theorem dX9_put_144 : decode cX9_put 144 = .ok (.iadd, 1) := by decide +kernel
theorem dX9_put_145 : decode cX9_put 145 = .ok (.putfield 115, 3) := by decide +kernel
theorem dX9_put_148 : decode cX9_put 148 = .ok (.iinc 10 1, 3) := by decide +kernel
theorem dX9_put_151 : decode cX9_put 151 = .ok (.goto (-106), 3) := by decide +kernel
theorem dX9_put_154 : decode cX9_put 154 = .ok (.return_, 1) := by decide +kernel
set_option maxRecDepth 20000 in
theorem ggX9_ring_X9_put : GoodIn wsX9_ring wsX9_put := goodIn_r _ [5, 6, 7, 8, 9, 10, 11, 4, 12, 13, 14, 15, 16, 17, 18, 19, 20, 21, 22, 23, 24, 25, 26, 27, 28, 29, 30, 31, 32, 33, 34, 35, 36, 37] (by decide +kernel) (by decide +kernel)
set_option maxRecDepth 20000 in
theorem gX9_ring_X9_put : GoodIn wsX9_ring (wsV RX9 118 RX9 yX9_put wsX9_put) := goodIn_app (goodIn_of _ (by decide +kernel)) ggX9_ring_X9_put
theorem dX9_ring_0 : decode cX9_ring 0 = .ok (.iload_n 1, 1) := by decide +kernel
theorem dX9_ring_1 : decode cX9_ring 1 = .ok (.iconst 2, 1) := by decide +kernel
theorem dX9_ring_2 : decode cX9_ring 2 = .ok (.if_icmp .ge 54, 3) := by decide +kernel
theorem dX9_ring_5 : decode cX9_ring 5 = .ok (.iconst 0, 1) := by decide +kernel
theorem dX9_ring_6 : decode cX9_ring 6 = .ok (.istore 4, 2) := by decide +kernel
theorem dX9_ring_8 : decode cX9_ring 8 = .ok (.iload 4, 2) := by decide +kernel
theorem dX9_ring_10 : decode cX9_ring 10 = .ok (.iload_n 3, 1) := by decide +kernel
theorem dX9_ring_11 : decode cX9_ring 11 = .ok (.iconst 1, 1) := by decide +kernel
theorem dX9_ring_12 : decode cX9_ring 12 = .ok (.isub, 1) := by decide +kernel
theorem dX9_ring_13 : decode cX9_ring 13 = .ok (.if_icmp .ge 42, 3) := by decide +kernel
theorem dX9_ring_16 : decode cX9_ring 16 = .ok (.aload_n 0, 1) := by decide +kernel
theorem dX9_ring_17 : decode cX9_ring 17 = .ok (.iload 4, 2) := by decide +kernel
theorem dX9_ring_19 : decode cX9_ring 19 = .ok (.iload_n 2, 1) := by decide +kernel
theorem dX9_ring_20 : decode cX9_ring 20 = .ok (.iload 4, 2) := by decide +kernel
theorem dX9_ring_22 : decode cX9_ring 22 = .ok (.iadd, 1) := by decide +kernel
theorem dX9_ring_23 : decode cX9_ring 23 = .ok (.iload_n 1, 1) := by decide +kernel
theorem dX9_ring_24 : decode cX9_ring 24 = .ok (.iadd, 1) := by decide +kernel
theorem dX9_ring_25 : decode cX9_ring 25 = .ok (.iload_n 2, 1) := by decide +kernel
theorem dX9_ring_26 : decode cX9_ring 26 = .ok (.iload 4, 2) := by decide +kernel
theorem dX9_ring_28 : decode cX9_ring 28 = .ok (.iadd, 1) := by decide +kernel
theorem dX9_ring_29 : decode cX9_ring 29 = .ok (.iload_n 1, 1) := by decide +kernel
theorem dX9_ring_30 : decode cX9_ring 30 = .ok (.iadd, 1) := by decide +kernel
theorem dX9_ring_31 : decode cX9_ring 31 = .ok (.iconst 1, 1) := by decide +kernel
theorem dX9_ring_32 : decode cX9_ring 32 = .ok (.iadd, 1) := by decide +kernel
theorem dX9_ring_33 : decode cX9_ring 33 = .ok (.iconst 0, 1) := by decide +kernel
theorem dX9_ring_34 : decode cX9_ring 34 = .ok (.iload_n 3, 1) := by decide +kernel
theorem dX9_ring_35 : decode cX9_ring 35 = .ok (.iload_n 3, 1) := by decide +kernel
theorem dX9_ring_36 : decode cX9_ring 36 = .ok (.iload_n 1, 1) := by decide +kernel
theorem dX9_ring_37 : decode cX9_ring 37 = .ok (.iconst 1, 1) := by decide +kernel
theorem dX9_ring_38 : decode cX9_ring 38 = .ok (.if_icmp .ne 7, 3) := by decide +kernel
theorem dX9_ring_41 : decode cX9_ring 41 = .ok (.iconst 1, 1) := by decide +kernel
theorem dX9_ring_42 : decode cX9_ring 42 = .ok (.goto 4, 3) := by decide +kernel
theorem dX9_ring_45 : decode cX9_ring 45 = .ok (.iconst 0, 1) := by decide +kernel
theorem dX9_ring_46 : decode cX9_ring 46 = .ok (.invokevirtual 118, 3) := by decide +kernel
theorem dX9_ring_49 : decode cX9_ring 49 = .ok (.iinc 4 1, 3) := by decide +kernel
theorem dX9_ring_52 : decode cX9_ring 52 = .ok (.goto (-44), 3) := by decide +kernel
theorem dX9_ring_55 : decode cX9_ring 55 = .ok (.return_, 1) := by decide +kernel
theorem dX9_ring_56 : decode cX9_ring 56 = .ok (.iconst 0, 1) := by decide +kernel
theorem dX9_ring_57 : decode cX9_ring 57 = .ok (.istore 4, 2) := by decide +kernel
theorem dX9_ring_59 : decode cX9_ring 59 = .ok (.iload 4, 2) := by decide +kernel
theorem dX9_ring_61 : decode cX9_ring 61 = .ok (.iload_n 3, 1) := by decide +kernel
theorem dX9_ring_62 : decode cX9_ring 62 = .ok (.iconst 1, 1) := by decide +kernel
theorem dX9_ring_63 : decode cX9_ring 63 = .ok (.isub, 1) := by decide +kernel
theorem dX9_ring_64 : decode cX9_ring 64 = .ok (.if_icmp .ge 57, 3) := by decide +kernel
theorem dX9_ring_67 : decode cX9_ring 67 = .ok (.iconst 0, 1) := by decide +kernel
theorem dX9_ring_68 : decode cX9_ring 68 = .ok (.istore 5, 2) := by decide +kernel
theorem dX9_ring_70 : decode cX9_ring 70 = .ok (.iload 5, 2) := by decide +kernel
theorem dX9_ring_72 : decode cX9_ring 72 = .ok (.iload_n 3, 1) := by decide +kernel
theorem dX9_ring_73 : decode cX9_ring 73 = .ok (.if_icmp .ge 42, 3) := by decide +kernel
theorem dX9_ring_76 : decode cX9_ring 76 = .ok (.aload_n 0, 1) := by decide +kernel
theorem dX9_ring_77 : decode cX9_ring 77 = .ok (.iload 4, 2) := by decide +kernel
theorem dX9_ring_79 : decode cX9_ring 79 = .ok (.iload 5, 2) := by decide +kernel
theorem dX9_ring_81 : decode cX9_ring 81 = .ok (.iload 5, 2) := by decide +kernel
theorem dX9_ring_83 : decode cX9_ring 83 = .ok (.iconst 1, 1) := by decide +kernel
theorem dX9_ring_84 : decode cX9_ring 84 = .ok (.iadd, 1) := by decide +kernel
theorem dX9_ring_85 : decode cX9_ring 85 = .ok (.iload 5, 2) := by decide +kernel
theorem dX9_ring_87 : decode cX9_ring 87 = .ok (.iload 4, 2) := by decide +kernel
theorem dX9_ring_89 : decode cX9_ring 89 = .ok (.isub, 1) := by decide +kernel
theorem dX9_ring_90 : decode cX9_ring 90 = .ok (.iload_n 3, 1) := by decide +kernel
theorem dX9_ring_91 : decode cX9_ring 91 = .ok (.iadd, 1) := by decide +kernel
theorem dX9_ring_92 : decode cX9_ring 92 = .ok (.iload_n 3, 1) := by decide +kernel
theorem dX9_ring_93 : decode cX9_ring 93 = .ok (.irem, 1) := by decide +kernel
theorem dX9_ring_94 : decode cX9_ring 94 = .ok (.iconst 1, 1) := by decide +kernel
theorem dX9_ring_95 : decode cX9_ring 95 = .ok (.iload_n 3, 1) := by decide +kernel
theorem dX9_ring_96 : decode cX9_ring 96 = .ok (.iload_n 1, 1) := by decide +kernel
theorem dX9_ring_97 : decode cX9_ring 97 = .ok (.iconst 2, 1) := by decide +kernel
theorem dX9_ring_98 : decode cX9_ring 98 = .ok (.if_icmp .ne 7, 3) := by decide +kernel
theorem dX9_ring_101 : decode cX9_ring 101 = .ok (.iconst 1, 1) := by decide +kernel
theorem dX9_ring_102 : decode cX9_ring 102 = .ok (.goto 4, 3) := by decide +kernel
theorem dX9_ring_105 : decode cX9_ring 105 = .ok (.iconst 0, 1) := by decide +kernel
theorem dX9_ring_106 : decode cX9_ring 106 = .ok (.invokevirtual 118, 3) := by decide +kernel
theorem dX9_ring_109 : decode cX9_ring 109 = .ok (.iinc 5 1, 3) := by decide +kernel
theorem dX9_ring_112 : decode cX9_ring 112 = .ok (.goto (-42), 3) := by decide +kernel
theorem dX9_ring_115 : decode cX9_ring 115 = .ok (.iinc 4 1, 3) := by decide +kernel
theorem dX9_ring_118 : decode cX9_ring 118 = .ok (.goto (-59), 3) := by decide +kernel
theorem dX9_ring_121 : decode cX9_ring 121 = .ok (.iconst 0, 1) := by decide +kernel
theorem dX9_ring_122 : decode cX9_ring 122 = .ok (.istore 4, 2) := by decide +kernel
theorem dX9_ring_124 : decode cX9_ring 124 = .ok (.iload 4, 2) := by decide +kernel
theorem dX9_ring_126 : decode cX9_ring 126 = .ok (.iload_n 3, 1) := by decide +kernel
theorem dX9_ring_127 : decode cX9_ring 127 = .ok (.iconst 1, 1) := by decide +kernel
theorem dX9_ring_128 : decode cX9_ring 128 = .ok (.isub, 1) := by decide +kernel
theorem dX9_ring_129 : decode cX9_ring 129 = .ok (.if_icmp .ge 59, 3) := by decide +kernel
theorem dX9_ring_132 : decode cX9_ring 132 = .ok (.iload_n 1, 1) := by decide +kernel
theorem dX9_ring_133 : decode cX9_ring 133 = .ok (.iconst 2, 1) := by decide +kernel
theorem dX9_ring_134 : decode cX9_ring 134 = .ok (.if_icmp .ne 54, 3) := by decide +kernel
theorem dX9_ring_137 : decode cX9_ring 137 = .ok (.iconst 0, 1) := by decide +kernel
theorem dX9_ring_138 : decode cX9_ring 138 = .ok (.istore 5, 2) := by decide +kernel
theorem dX9_ring_140 : decode cX9_ring 140 = .ok (.iload 5, 2) := by decide +kernel
theorem dX9_ring_142 : decode cX9_ring 142 = .ok (.iload_n 3, 1) := by decide +kernel
theorem dX9_ring_143 : decode cX9_ring 143 = .ok (.if_icmp .ge 39, 3) := by decide +kernel
theorem dX9_ring_146 : decode cX9_ring 146 = .ok (.aload_n 0, 1) := by decide +kernel
theorem dX9_ring_147 : decode cX9_ring 147 = .ok (.iload_n 3, 1) := by decide +kernel
theorem dX9_ring_148 : decode cX9_ring 148 = .ok (.iconst 1, 1) := by decide +kernel
theorem dX9_ring_149 : decode cX9_ring 149 = .ok (.isub, 1) := by decide +kernel
theorem dX9_ring_150 : decode cX9_ring 150 = .ok (.iload 4, 2) := by decide +kernel
theorem dX9_ring_152 : decode cX9_ring 152 = .ok (.iadd, 1) := by decide +kernel
theorem dX9_ring_153 : decode cX9_ring 153 = .ok (.iload 5, 2) := by decide +kernel
theorem dX9_ring_155 : decode cX9_ring 155 = .ok (.iload 5, 2) := by decide +kernel
theorem dX9_ring_157 : decode cX9_ring 157 = .ok (.iconst 1, 1) := by decide +kernel
theorem dX9_ring_158 : decode cX9_ring 158 = .ok (.iadd, 1) := by decide +kernel
theorem dX9_ring_159 : decode cX9_ring 159 = .ok (.iload 5, 2) := by decide +kernel
theorem dX9_ring_161 : decode cX9_ring 161 = .ok (.iconst 1, 1) := by decide +kernel
theorem dX9_ring_162 : decode cX9_ring 162 = .ok (.iadd, 1) := by decide +kernel
theorem dX9_ring_163 : decode cX9_ring 163 = .ok (.iload 4, 2) := by decide +kernel
theorem dX9_ring_165 : decode cX9_ring 165 = .ok (.isub, 1) := by decide +kernel
theorem dX9_ring_166 : decode cX9_ring 166 = .ok (.iload_n 3, 1) := by decide +kernel
theorem dX9_ring_167 : decode cX9_ring 167 = .ok (.iadd, 1) := by decide +kernel
theorem dX9_ring_168 : decode cX9_ring 168 = .ok (.iload_n 3, 1) := by decide +kernel
theorem dX9_ring_169 : decode cX9_ring 169 = .ok (.irem, 1) := by decide +kernel
theorem dX9_ring_170 : decode cX9_ring 170 = .ok (.iconst 1, 1) := by decide +kernel
theorem dX9_ring_171 : decode cX9_ring 171 = .ok (.iload_n 3, 1) := by decide +kernel
theorem dX9_ring_172 : decode cX9_ring 172 = .ok (.iconst 0, 1) := by decide +kernel
theorem dX9_ring_173 : decode cX9_ring 173 = .ok (.invokevirtual 118, 3) := by decide +kernel
theorem dX9_ring_176 : decode cX9_ring 176 = .ok (.iinc 5 1, 3) := by decide +kernel
theorem dX9_ring_179 : decode cX9_ring 179 = .ok (.goto (-39), 3) := by decide +kernel
theorem dX9_ring_182 : decode cX9_ring 182 = .ok (.iinc 4 1, 3) := by decide +kernel
theorem dX9_ring_185 : decode cX9_ring 185 = .ok (.goto (-61), 3) := by decide +kernel
theorem dX9_ring_188 : decode cX9_ring 188 = .ok (.return_, 1) := by decide +kernel
theorem dX9_turns_0 : decode cX9_turns 0 = .ok (.iconst 0, 1) := by decide +kernel
theorem dX9_turns_1 : decode cX9_turns 1 = .ok (.istore_n 1, 1) := by decide +kernel
theorem dX9_turns_2 : decode cX9_turns 2 = .ok (.iconst 1, 1) := by decide +kernel
theorem dX9_turns_3 : decode cX9_turns 3 = .ok (.iload_n 1, 1) := by decide +kernel
theorem dX9_turns_4 : decode cX9_turns 4 = .ok (.ishl, 1) := by decide +kernel
theorem dX9_turns_5 : decode cX9_turns 5 = .ok (.iload_n 0, 1) := by decide +kernel
theorem dX9_turns_6 : decode cX9_turns 6 = .ok (.if_icmp .ge 9, 3) := by decide +kernel
theorem dX9_turns_9 : decode cX9_turns 9 = .ok (.iinc 1 1, 3) := by decide +kernel
theorem dX9_turns_12 : decode cX9_turns 12 = .ok (.goto (-10), 3) := by decide +kernel
theorem dX9_turns_15 : decode cX9_turns 15 = .ok (.iload_n 1, 1) := by decide +kernel
theorem dX9_turns_16 : decode cX9_turns 16 = .ok (.ireturn, 1) := by decide +kernel
set_option maxRecDepth 20000 in
theorem ggX9_spread_X9_turns : GoodIn wsX9_spread wsX9_turns := goodIn_r _ [4] (by decide +kernel) (by decide +kernel)
set_option maxRecDepth 20000 in
theorem gX9_spread_X9_turns : GoodIn wsX9_spread (va_wsS RX9 122 yX9_turns wsX9_turns) := goodIn_app (goodIn_of _ (by decide +kernel)) ggX9_spread_X9_turns
set_option maxRecDepth 20000 in
theorem ggX9_spread_X9_put : GoodIn wsX9_spread wsX9_put := goodIn_r _ [8, 9, 10, 11, 12, 13, 14, 3, 15, 16, 17, 18, 19, 20, 21, 22, 23, 24, 25, 26, 27, 28, 29, 30, 31, 32, 33, 34, 35, 36, 37, 38, 39, 40] (by decide +kernel) (by decide +kernel)
set_option maxRecDepth 20000 in
theorem gX9_spread_X9_put : GoodIn wsX9_spread (wsV RX9 118 RX9 yX9_put wsX9_put) := goodIn_app (goodIn_of _ (by decide +kernel)) ggX9_spread_X9_put
theorem dX9_spread_0 : decode cX9_spread 0 = .ok (.iconst 0, 1) := by decide +kernel
theorem dX9_spread_1 : decode cX9_spread 1 = .ok (.istore 4, 2) := by decide +kernel
theorem dX9_spread_3 : decode cX9_spread 3 = .ok (.iload 4, 2) := by decide +kernel
theorem dX9_spread_5 : decode cX9_spread 5 = .ok (.iload_n 3, 1) := by decide +kernel
theorem dX9_spread_6 : decode cX9_spread 6 = .ok (.invokestatic 122, 3) := by decide +kernel
theorem dX9_spread_9 : decode cX9_spread 9 = .ok (.if_icmp .ge 63, 3) := by decide +kernel
theorem dX9_spread_12 : decode cX9_spread 12 = .ok (.iconst 0, 1) := by decide +kernel
theorem dX9_spread_13 : decode cX9_spread 13 = .ok (.istore 5, 2) := by decide +kernel
theorem dX9_spread_15 : decode cX9_spread 15 = .ok (.iload 5, 2) := by decide +kernel
theorem dX9_spread_17 : decode cX9_spread 17 = .ok (.iconst 1, 1) := by decide +kernel
theorem dX9_spread_18 : decode cX9_spread 18 = .ok (.iload 4, 2) := by decide +kernel
theorem dX9_spread_20 : decode cX9_spread 20 = .ok (.ishl, 1) := by decide +kernel
theorem dX9_spread_21 : decode cX9_spread 21 = .ok (.if_icmp .ge 45, 3) := by decide +kernel
theorem dX9_spread_24 : decode cX9_spread 24 = .ok (.iload 5, 2) := by decide +kernel
theorem dX9_spread_26 : decode cX9_spread 26 = .ok (.iconst 1, 1) := by decide +kernel
theorem dX9_spread_27 : decode cX9_spread 27 = .ok (.iload 4, 2) := by decide +kernel
theorem dX9_spread_29 : decode cX9_spread 29 = .ok (.ishl, 1) := by decide +kernel
theorem dX9_spread_30 : decode cX9_spread 30 = .ok (.iadd, 1) := by decide +kernel
theorem dX9_spread_31 : decode cX9_spread 31 = .ok (.iload_n 3, 1) := by decide +kernel
theorem dX9_spread_32 : decode cX9_spread 32 = .ok (.if_icmp .ge 34, 3) := by decide +kernel
theorem dX9_spread_35 : decode cX9_spread 35 = .ok (.aload_n 0, 1) := by decide +kernel
theorem dX9_spread_36 : decode cX9_spread 36 = .ok (.iload_n 1, 1) := by decide +kernel
theorem dX9_spread_37 : decode cX9_spread 37 = .ok (.iload 4, 2) := by decide +kernel
theorem dX9_spread_39 : decode cX9_spread 39 = .ok (.iadd, 1) := by decide +kernel
theorem dX9_spread_40 : decode cX9_spread 40 = .ok (.iload_n 2, 1) := by decide +kernel
theorem dX9_spread_41 : decode cX9_spread 41 = .ok (.iload 5, 2) := by decide +kernel
theorem dX9_spread_43 : decode cX9_spread 43 = .ok (.iadd, 1) := by decide +kernel
theorem dX9_spread_44 : decode cX9_spread 44 = .ok (.iload_n 2, 1) := by decide +kernel
theorem dX9_spread_45 : decode cX9_spread 45 = .ok (.iload 5, 2) := by decide +kernel
theorem dX9_spread_47 : decode cX9_spread 47 = .ok (.iadd, 1) := by decide +kernel
theorem dX9_spread_48 : decode cX9_spread 48 = .ok (.iconst 1, 1) := by decide +kernel
theorem dX9_spread_49 : decode cX9_spread 49 = .ok (.iload 4, 2) := by decide +kernel
theorem dX9_spread_51 : decode cX9_spread 51 = .ok (.ishl, 1) := by decide +kernel
theorem dX9_spread_52 : decode cX9_spread 52 = .ok (.iadd, 1) := by decide +kernel
theorem dX9_spread_53 : decode cX9_spread 53 = .ok (.iconst 0, 1) := by decide +kernel
theorem dX9_spread_54 : decode cX9_spread 54 = .ok (.iload_n 3, 1) := by decide +kernel
theorem dX9_spread_55 : decode cX9_spread 55 = .ok (.iload_n 3, 1) := by decide +kernel
theorem dX9_spread_56 : decode cX9_spread 56 = .ok (.iconst 0, 1) := by decide +kernel
theorem dX9_spread_57 : decode cX9_spread 57 = .ok (.invokevirtual 118, 3) := by decide +kernel
theorem dX9_spread_60 : decode cX9_spread 60 = .ok (.iinc 5 1, 3) := by decide +kernel
theorem dX9_spread_63 : decode cX9_spread 63 = .ok (.goto (-48), 3) := by decide +kernel
theorem dX9_spread_66 : decode cX9_spread 66 = .ok (.iinc 4 1, 3) := by decide +kernel
theorem dX9_spread_69 : decode cX9_spread 69 = .ok (.goto (-66), 3) := by decide +kernel
theorem dX9_spread_72 : decode cX9_spread 72 = .ok (.return_, 1) := by decide +kernel
set_option maxRecDepth 20000 in
theorem ggX9_tree_X9_turns : GoodIn wsX9_tree wsX9_turns := goodIn_r _ [4] (by decide +kernel) (by decide +kernel)
set_option maxRecDepth 20000 in
theorem gX9_tree_X9_turns : GoodIn wsX9_tree (va_wsS RX9 122 yX9_turns wsX9_turns) := goodIn_app (goodIn_of _ (by decide +kernel)) ggX9_tree_X9_turns
set_option maxRecDepth 20000 in
theorem ggX9_tree_X9_put : GoodIn wsX9_tree wsX9_put := goodIn_r _ [8, 9, 10, 11, 12, 13, 14, 3, 15, 16, 17, 18, 19, 20, 21, 26, 27, 28, 29, 30, 31, 32, 33, 34, 35, 36, 37, 38, 39, 40, 41, 42, 43, 44] (by decide +kernel) (by decide +kernel)
set_option maxRecDepth 20000 in
theorem gX9_tree_X9_put : GoodIn wsX9_tree (wsV RX9 118 RX9 yX9_put wsX9_put) := goodIn_app (goodIn_of _ (by decide +kernel)) ggX9_tree_X9_put
set_option maxRecDepth 20000 in
theorem ggX9_tree_X9_spread : GoodIn wsX9_tree wsX9_spread := goodIn_r _ [25, 1, 2, 3, 4, 5, 6, 7, 8, 9, 10, 11, 12, 13, 14, 15, 16, 17, 18, 19, 20, 21, 26, 27, 28, 29, 30, 31, 32, 33, 34, 35, 36, 37, 38, 39, 40, 41, 42, 43, 44] (by decide +kernel) (by decide +kernel)
set_option maxRecDepth 20000 in
theorem gX9_tree_X9_spread : GoodIn wsX9_tree (wsV RX9 125 RX9 yX9_spread wsX9_spread) := goodIn_app (goodIn_of _ (by decide +kernel)) ggX9_tree_X9_spread
theorem dX9_tree_0 : decode cX9_tree 0 = .ok (.iload_n 3, 1) := by decide +kernel
theorem dX9_tree_1 : decode cX9_tree 1 = .ok (.invokestatic 122, 3) := by decide +kernel
theorem dX9_tree_4 : decode cX9_tree 4 = .ok (.istore 4, 2) := by decide +kernel
theorem dX9_tree_6 : decode cX9_tree 6 = .ok (.iconst 0, 1) := by decide +kernel
theorem dX9_tree_7 : decode cX9_tree 7 = .ok (.istore 5, 2) := by decide +kernel
theorem dX9_tree_9 : decode cX9_tree 9 = .ok (.iload 5, 2) := by decide +kernel
theorem dX9_tree_11 : decode cX9_tree 11 = .ok (.iload 4, 2) := by decide +kernel
theorem dX9_tree_13 : decode cX9_tree 13 = .ok (.if_icmp .ge 70, 3) := by decide +kernel
theorem dX9_tree_16 : decode cX9_tree 16 = .ok (.iload_n 1, 1) := by decide +kernel
theorem dX9_tree_17 : decode cX9_tree 17 = .ok (.ifCond .le 66, 3) := by decide +kernel
theorem dX9_tree_20 : decode cX9_tree 20 = .ok (.iconst 1, 1) := by decide +kernel
theorem dX9_tree_21 : decode cX9_tree 21 = .ok (.iload 4, 2) := by decide +kernel
theorem dX9_tree_23 : decode cX9_tree 23 = .ok (.iconst 1, 1) := by decide +kernel
theorem dX9_tree_24 : decode cX9_tree 24 = .ok (.isub, 1) := by decide +kernel
theorem dX9_tree_25 : decode cX9_tree 25 = .ok (.iload 5, 2) := by decide +kernel
theorem dX9_tree_27 : decode cX9_tree 27 = .ok (.isub, 1) := by decide +kernel
theorem dX9_tree_28 : decode cX9_tree 28 = .ok (.ishl, 1) := by decide +kernel
theorem dX9_tree_29 : decode cX9_tree 29 = .ok (.istore 6, 2) := by decide +kernel
theorem dX9_tree_31 : decode cX9_tree 31 = .ok (.iconst 0, 1) := by decide +kernel
theorem dX9_tree_32 : decode cX9_tree 32 = .ok (.istore 7, 2) := by decide +kernel
theorem dX9_tree_34 : decode cX9_tree 34 = .ok (.iload 7, 2) := by decide +kernel
theorem dX9_tree_36 : decode cX9_tree 36 = .ok (.iload 6, 2) := by decide +kernel
theorem dX9_tree_38 : decode cX9_tree 38 = .ok (.if_icmp .ge 39, 3) := by decide +kernel
theorem dX9_tree_41 : decode cX9_tree 41 = .ok (.iload 7, 2) := by decide +kernel
theorem dX9_tree_43 : decode cX9_tree 43 = .ok (.iload 6, 2) := by decide +kernel
theorem dX9_tree_45 : decode cX9_tree 45 = .ok (.iadd, 1) := by decide +kernel
theorem dX9_tree_46 : decode cX9_tree 46 = .ok (.iload_n 3, 1) := by decide +kernel
theorem dX9_tree_47 : decode cX9_tree 47 = .ok (.if_icmp .ge 30, 3) := by decide +kernel
theorem dX9_tree_50 : decode cX9_tree 50 = .ok (.aload_n 0, 1) := by decide +kernel
theorem dX9_tree_51 : decode cX9_tree 51 = .ok (.iload 5, 2) := by decide +kernel
theorem dX9_tree_53 : decode cX9_tree 53 = .ok (.iload_n 2, 1) := by decide +kernel
theorem dX9_tree_54 : decode cX9_tree 54 = .ok (.iload 7, 2) := by decide +kernel
theorem dX9_tree_56 : decode cX9_tree 56 = .ok (.iadd, 1) := by decide +kernel
theorem dX9_tree_57 : decode cX9_tree 57 = .ok (.iload 6, 2) := by decide +kernel
theorem dX9_tree_59 : decode cX9_tree 59 = .ok (.iadd, 1) := by decide +kernel
theorem dX9_tree_60 : decode cX9_tree 60 = .ok (.iload_n 2, 1) := by decide +kernel
theorem dX9_tree_61 : decode cX9_tree 61 = .ok (.iload 7, 2) := by decide +kernel
theorem dX9_tree_63 : decode cX9_tree 63 = .ok (.iadd, 1) := by decide +kernel
theorem dX9_tree_64 : decode cX9_tree 64 = .ok (.iconst 0, 1) := by decide +kernel
theorem dX9_tree_65 : decode cX9_tree 65 = .ok (.iload_n 3, 1) := by decide +kernel
theorem dX9_tree_66 : decode cX9_tree 66 = .ok (.iload_n 3, 1) := by decide +kernel
theorem dX9_tree_67 : decode cX9_tree 67 = .ok (.iconst 1, 1) := by decide +kernel
theorem dX9_tree_68 : decode cX9_tree 68 = .ok (.invokevirtual 118, 3) := by decide +kernel
theorem dX9_tree_71 : decode cX9_tree 71 = .ok (.iinc 7 1, 3) := by decide +kernel
theorem dX9_tree_74 : decode cX9_tree 74 = .ok (.goto (-40), 3) := by decide +kernel
theorem dX9_tree_77 : decode cX9_tree 77 = .ok (.iinc 5 1, 3) := by decide +kernel
theorem dX9_tree_80 : decode cX9_tree 80 = .ok (.goto (-71), 3) := by decide +kernel
theorem dX9_tree_83 : decode cX9_tree 83 = .ok (.iload_n 1, 1) := by decide +kernel
theorem dX9_tree_84 : decode cX9_tree 84 = .ok (.iconst 1, 1) := by decide +kernel
theorem dX9_tree_85 : decode cX9_tree 85 = .ok (.if_icmp .eq 19, 3) := by decide +kernel
theorem dX9_tree_88 : decode cX9_tree 88 = .ok (.aload_n 0, 1) := by decide +kernel
theorem dX9_tree_89 : decode cX9_tree 89 = .ok (.iload_n 1, 1) := by decide +kernel
theorem dX9_tree_90 : decode cX9_tree 90 = .ok (.ifCond .ne 7, 3) := by decide +kernel
theorem dX9_tree_93 : decode cX9_tree 93 = .ok (.iconst 0, 1) := by decide +kernel
theorem dX9_tree_94 : decode cX9_tree 94 = .ok (.goto 5, 3) := by decide +kernel
theorem dX9_tree_97 : decode cX9_tree 97 = .ok (.iload 4, 2) := by decide +kernel
theorem dX9_tree_99 : decode cX9_tree 99 = .ok (.iload_n 2, 1) := by decide +kernel
theorem dX9_tree_100 : decode cX9_tree 100 = .ok (.iload_n 3, 1) := by decide +kernel
theorem dX9_tree_101 : decode cX9_tree 101 = .ok (.invokevirtual 125, 3) := by decide +kernel
theorem dX9_tree_104 : decode cX9_tree 104 = .ok (.return_, 1) := by decide +kernel
set_option maxRecDepth 20000 in
theorem ggX9_halve_X9_turns : GoodIn wsX9_halve wsX9_turns := goodIn_r _ [4] (by decide +kernel) (by decide +kernel)
set_option maxRecDepth 20000 in
theorem gX9_halve_X9_turns : GoodIn wsX9_halve (va_wsS RX9 122 yX9_turns wsX9_turns) := goodIn_app (goodIn_of _ (by decide +kernel)) ggX9_halve_X9_turns
set_option maxRecDepth 20000 in
theorem ggX9_halve_X9_put : GoodIn wsX9_halve wsX9_put := goodIn_r _ [8, 9, 10, 11, 12, 13, 14, 3, 15, 16, 17, 18, 19, 20, 21, 22, 23, 24, 25, 26, 27, 28, 29, 30, 31, 32, 33, 34, 35, 36, 37, 38, 39, 40] (by decide +kernel) (by decide +kernel)
set_option maxRecDepth 20000 in
theorem gX9_halve_X9_put : GoodIn wsX9_halve (wsV RX9 118 RX9 yX9_put wsX9_put) := goodIn_app (goodIn_of _ (by decide +kernel)) ggX9_halve_X9_put
theorem dX9_halve_0 : decode cX9_halve 0 = .ok (.iconst 0, 1) := by decide +kernel
theorem dX9_halve_1 : decode cX9_halve 1 = .ok (.istore_n 3, 1) := by decide +kernel
theorem dX9_halve_2 : decode cX9_halve 2 = .ok (.iload_n 3, 1) := by decide +kernel
theorem dX9_halve_3 : decode cX9_halve 3 = .ok (.iload_n 2, 1) := by decide +kernel
theorem dX9_halve_4 : decode cX9_halve 4 = .ok (.invokestatic 122, 3) := by decide +kernel
theorem dX9_halve_7 : decode cX9_halve 7 = .ok (.if_icmp .ge 80, 3) := by decide +kernel
theorem dX9_halve_10 : decode cX9_halve 10 = .ok (.iconst 1, 1) := by decide +kernel
theorem dX9_halve_11 : decode cX9_halve 11 = .ok (.iload_n 3, 1) := by decide +kernel
theorem dX9_halve_12 : decode cX9_halve 12 = .ok (.ishl, 1) := by decide +kernel
theorem dX9_halve_13 : decode cX9_halve 13 = .ok (.istore 4, 2) := by decide +kernel
theorem dX9_halve_15 : decode cX9_halve 15 = .ok (.iconst 0, 1) := by decide +kernel
theorem dX9_halve_16 : decode cX9_halve 16 = .ok (.istore 5, 2) := by decide +kernel
theorem dX9_halve_18 : decode cX9_halve 18 = .ok (.iload 5, 2) := by decide +kernel
theorem dX9_halve_20 : decode cX9_halve 20 = .ok (.iload_n 2, 1) := by decide +kernel
theorem dX9_halve_21 : decode cX9_halve 21 = .ok (.if_icmp .ge 60, 3) := by decide +kernel
theorem dX9_halve_24 : decode cX9_halve 24 = .ok (.aload_n 0, 1) := by decide +kernel
theorem dX9_halve_25 : decode cX9_halve 25 = .ok (.iload_n 3, 1) := by decide +kernel
theorem dX9_halve_26 : decode cX9_halve 26 = .ok (.iload 5, 2) := by decide +kernel
theorem dX9_halve_28 : decode cX9_halve 28 = .ok (.iload 5, 2) := by decide +kernel
theorem dX9_halve_30 : decode cX9_halve 30 = .ok (.iload 4, 2) := by decide +kernel
theorem dX9_halve_32 : decode cX9_halve 32 = .ok (.ixor, 1) := by decide +kernel
theorem dX9_halve_33 : decode cX9_halve 33 = .ok (.iload_n 1, 1) := by decide +kernel
theorem dX9_halve_34 : decode cX9_halve 34 = .ok (.iconst 2, 1) := by decide +kernel
theorem dX9_halve_35 : decode cX9_halve 35 = .ok (.if_icmp .ne 7, 3) := by decide +kernel
theorem dX9_halve_38 : decode cX9_halve 38 = .ok (.iconst 0, 1) := by decide +kernel
theorem dX9_halve_39 : decode cX9_halve 39 = .ok (.goto 11, 3) := by decide +kernel
theorem dX9_halve_42 : decode cX9_halve 42 = .ok (.iload 5, 2) := by decide +kernel
theorem dX9_halve_44 : decode cX9_halve 44 = .ok (.iload 5, 2) := by decide +kernel
theorem dX9_halve_46 : decode cX9_halve 46 = .ok (.iload 4, 2) := by decide +kernel
theorem dX9_halve_48 : decode cX9_halve 48 = .ok (.irem, 1) := by decide +kernel
theorem dX9_halve_49 : decode cX9_halve 49 = .ok (.isub, 1) := by decide +kernel
theorem dX9_halve_50 : decode cX9_halve 50 = .ok (.iload_n 1, 1) := by decide +kernel
theorem dX9_halve_51 : decode cX9_halve 51 = .ok (.iconst 2, 1) := by decide +kernel
theorem dX9_halve_52 : decode cX9_halve 52 = .ok (.if_icmp .ne 7, 3) := by decide +kernel
theorem dX9_halve_55 : decode cX9_halve 55 = .ok (.iload_n 2, 1) := by decide +kernel
theorem dX9_halve_56 : decode cX9_halve 56 = .ok (.goto 5, 3) := by decide +kernel
theorem dX9_halve_59 : decode cX9_halve 59 = .ok (.iload 4, 2) := by decide +kernel
theorem dX9_halve_61 : decode cX9_halve 61 = .ok (.iload_n 2, 1) := by decide +kernel
theorem dX9_halve_62 : decode cX9_halve 62 = .ok (.iload_n 1, 1) := by decide +kernel
theorem dX9_halve_63 : decode cX9_halve 63 = .ok (.iconst 2, 1) := by decide +kernel
theorem dX9_halve_64 : decode cX9_halve 64 = .ok (.if_icmp .ne 7, 3) := by decide +kernel
theorem dX9_halve_67 : decode cX9_halve 67 = .ok (.iconst 1, 1) := by decide +kernel
theorem dX9_halve_68 : decode cX9_halve 68 = .ok (.goto 4, 3) := by decide +kernel
theorem dX9_halve_71 : decode cX9_halve 71 = .ok (.iconst 0, 1) := by decide +kernel
theorem dX9_halve_72 : decode cX9_halve 72 = .ok (.invokevirtual 118, 3) := by decide +kernel
theorem dX9_halve_75 : decode cX9_halve 75 = .ok (.iinc 5 1, 3) := by decide +kernel
theorem dX9_halve_78 : decode cX9_halve 78 = .ok (.goto (-60), 3) := by decide +kernel
theorem dX9_halve_81 : decode cX9_halve 81 = .ok (.iinc 3 1, 3) := by decide +kernel
theorem dX9_halve_84 : decode cX9_halve 84 = .ok (.goto (-82), 3) := by decide +kernel
theorem dX9_halve_87 : decode cX9_halve 87 = .ok (.return_, 1) := by decide +kernel
set_option maxRecDepth 20000 in
theorem ggX9_direct_X9_put : GoodIn wsX9_direct wsX9_put := goodIn_r _ [7, 8, 1, 2, 9, 10, 11, 6, 12, 13, 14, 15, 16, 17, 18, 19, 20, 21, 22, 23, 24, 25, 26, 27, 28, 29, 30, 31, 32, 33, 34, 35, 36, 37] (by decide +kernel) (by decide +kernel)
set_option maxRecDepth 20000 in
theorem gX9_direct_X9_put : GoodIn wsX9_direct (wsV RX9 118 RX9 yX9_put wsX9_put) := goodIn_app (goodIn_of _ (by decide +kernel)) ggX9_direct_X9_put
theorem dX9_direct_0 : decode cX9_direct 0 = .ok (.iconst 0, 1) := by decide +kernel
theorem dX9_direct_1 : decode cX9_direct 1 = .ok (.istore 4, 2) := by decide +kernel
theorem dX9_direct_3 : decode cX9_direct 3 = .ok (.iconst 0, 1) := by decide +kernel
theorem dX9_direct_4 : decode cX9_direct 4 = .ok (.istore 5, 2) := by decide +kernel
theorem dX9_direct_6 : decode cX9_direct 6 = .ok (.iload 5, 2) := by decide +kernel
theorem dX9_direct_8 : decode cX9_direct 8 = .ok (.iload_n 3, 1) := by decide +kernel
theorem dX9_direct_9 : decode cX9_direct 9 = .ok (.if_icmp .ge 207, 3) := by decide +kernel
theorem dX9_direct_12 : decode cX9_direct 12 = .ok (.iload_n 1, 1) := by decide +kernel
theorem dX9_direct_13 : decode cX9_direct 13 = .ok (.iconst 2, 1) := by decide +kernel
theorem dX9_direct_14 : decode cX9_direct 14 = .ok (.if_icmp .ge 58, 3) := by decide +kernel
theorem dX9_direct_17 : decode cX9_direct 17 = .ok (.iload 5, 2) := by decide +kernel
theorem dX9_direct_19 : decode cX9_direct 19 = .ok (.iload_n 3, 1) := by decide +kernel
theorem dX9_direct_20 : decode cX9_direct 20 = .ok (.iconst 1, 1) := by decide +kernel
theorem dX9_direct_21 : decode cX9_direct 21 = .ok (.isub, 1) := by decide +kernel
theorem dX9_direct_22 : decode cX9_direct 22 = .ok (.if_icmp .ge 50, 3) := by decide +kernel
theorem dX9_direct_25 : decode cX9_direct 25 = .ok (.aload_n 0, 1) := by decide +kernel
theorem dX9_direct_26 : decode cX9_direct 26 = .ok (.iload 5, 2) := by decide +kernel
theorem dX9_direct_28 : decode cX9_direct 28 = .ok (.iload_n 1, 1) := by decide +kernel
theorem dX9_direct_29 : decode cX9_direct 29 = .ok (.ifCond .ne 7, 3) := by decide +kernel
theorem dX9_direct_32 : decode cX9_direct 32 = .ok (.iload_n 2, 1) := by decide +kernel
theorem dX9_direct_33 : decode cX9_direct 33 = .ok (.goto 9, 3) := by decide +kernel
theorem dX9_direct_36 : decode cX9_direct 36 = .ok (.iload_n 2, 1) := by decide +kernel
theorem dX9_direct_37 : decode cX9_direct 37 = .ok (.iload 5, 2) := by decide +kernel
theorem dX9_direct_39 : decode cX9_direct 39 = .ok (.iadd, 1) := by decide +kernel
theorem dX9_direct_40 : decode cX9_direct 40 = .ok (.iconst 1, 1) := by decide +kernel
theorem dX9_direct_41 : decode cX9_direct 41 = .ok (.iadd, 1) := by decide +kernel
theorem dX9_direct_42 : decode cX9_direct 42 = .ok (.iload_n 1, 1) := by decide +kernel
theorem dX9_direct_43 : decode cX9_direct 43 = .ok (.ifCond .ne 12, 3) := by decide +kernel
theorem dX9_direct_46 : decode cX9_direct 46 = .ok (.iload_n 2, 1) := by decide +kernel
theorem dX9_direct_47 : decode cX9_direct 47 = .ok (.iload 5, 2) := by decide +kernel
theorem dX9_direct_49 : decode cX9_direct 49 = .ok (.iadd, 1) := by decide +kernel
theorem dX9_direct_50 : decode cX9_direct 50 = .ok (.iconst 1, 1) := by decide +kernel
theorem dX9_direct_51 : decode cX9_direct 51 = .ok (.iadd, 1) := by decide +kernel
theorem dX9_direct_52 : decode cX9_direct 52 = .ok (.goto 4, 3) := by decide +kernel
theorem dX9_direct_55 : decode cX9_direct 55 = .ok (.iload_n 2, 1) := by decide +kernel
theorem dX9_direct_56 : decode cX9_direct 56 = .ok (.iconst 0, 1) := by decide +kernel
theorem dX9_direct_57 : decode cX9_direct 57 = .ok (.iload_n 3, 1) := by decide +kernel
theorem dX9_direct_58 : decode cX9_direct 58 = .ok (.iload_n 3, 1) := by decide +kernel
theorem dX9_direct_59 : decode cX9_direct 59 = .ok (.iload_n 1, 1) := by decide +kernel
theorem dX9_direct_60 : decode cX9_direct 60 = .ok (.iconst 1, 1) := by decide +kernel
theorem dX9_direct_61 : decode cX9_direct 61 = .ok (.if_icmp .ne 7, 3) := by decide +kernel
theorem dX9_direct_64 : decode cX9_direct 64 = .ok (.iconst 1, 1) := by decide +kernel
theorem dX9_direct_65 : decode cX9_direct 65 = .ok (.goto 4, 3) := by decide +kernel
theorem dX9_direct_68 : decode cX9_direct 68 = .ok (.iconst 0, 1) := by decide +kernel
theorem dX9_direct_69 : decode cX9_direct 69 = .ok (.invokevirtual 118, 3) := by decide +kernel
theorem dX9_direct_72 : decode cX9_direct 72 = .ok (.iload_n 1, 1) := by decide +kernel
theorem dX9_direct_73 : decode cX9_direct 73 = .ok (.iconst 3, 1) := by decide +kernel
theorem dX9_direct_74 : decode cX9_direct 74 = .ok (.if_icmp .ne 43, 3) := by decide +kernel
theorem dX9_direct_77 : decode cX9_direct 77 = .ok (.iload 5, 2) := by decide +kernel
theorem dX9_direct_79 : decode cX9_direct 79 = .ok (.ifCond .le 38, 3) := by decide +kernel
theorem dX9_direct_82 : decode cX9_direct 82 = .ok (.iconst 0, 1) := by decide +kernel
theorem dX9_direct_83 : decode cX9_direct 83 = .ok (.istore 6, 2) := by decide +kernel
theorem dX9_direct_85 : decode cX9_direct 85 = .ok (.iload 6, 2) := by decide +kernel
theorem dX9_direct_87 : decode cX9_direct 87 = .ok (.iload_n 3, 1) := by decide +kernel
theorem dX9_direct_88 : decode cX9_direct 88 = .ok (.if_icmp .ge 29, 3) := by decide +kernel
theorem dX9_direct_91 : decode cX9_direct 91 = .ok (.aload_n 0, 1) := by decide +kernel
theorem dX9_direct_92 : decode cX9_direct 92 = .ok (.iload 5, 2) := by decide +kernel
theorem dX9_direct_94 : decode cX9_direct 94 = .ok (.iconst 1, 1) := by decide +kernel
theorem dX9_direct_95 : decode cX9_direct 95 = .ok (.isub, 1) := by decide +kernel
theorem dX9_direct_96 : decode cX9_direct 96 = .ok (.iload 6, 2) := by decide +kernel
theorem dX9_direct_98 : decode cX9_direct 98 = .ok (.iload 6, 2) := by decide +kernel
theorem dX9_direct_100 : decode cX9_direct 100 = .ok (.iload 5, 2) := by decide +kernel
theorem dX9_direct_102 : decode cX9_direct 102 = .ok (.iadd, 1) := by decide +kernel
theorem dX9_direct_103 : decode cX9_direct 103 = .ok (.iload 6, 2) := by decide +kernel
theorem dX9_direct_105 : decode cX9_direct 105 = .ok (.iconst 1, 1) := by decide +kernel
theorem dX9_direct_106 : decode cX9_direct 106 = .ok (.iload_n 3, 1) := by decide +kernel
theorem dX9_direct_107 : decode cX9_direct 107 = .ok (.iconst 0, 1) := by decide +kernel
theorem dX9_direct_108 : decode cX9_direct 108 = .ok (.invokevirtual 118, 3) := by decide +kernel
theorem dX9_direct_111 : decode cX9_direct 111 = .ok (.iinc 6 1, 3) := by decide +kernel
theorem dX9_direct_114 : decode cX9_direct 114 = .ok (.goto (-29), 3) := by decide +kernel
theorem dX9_direct_117 : decode cX9_direct 117 = .ok (.iload_n 1, 1) := by decide +kernel
theorem dX9_direct_118 : decode cX9_direct 118 = .ok (.iconst 4, 1) := by decide +kernel
theorem dX9_direct_119 : decode cX9_direct 119 = .ok (.if_icmp .eq 6, 3) := by decide +kernel
theorem dX9_direct_122 : decode cX9_direct 122 = .ok (.goto 88, 3) := by decide +kernel
theorem dX9_direct_125 : decode cX9_direct 125 = .ok (.aload_n 0, 1) := by decide +kernel
theorem dX9_direct_126 : decode cX9_direct 126 = .ok (.getfield 115, 3) := by decide +kernel
theorem dX9_direct_129 : decode cX9_direct 129 = .ok (.istore 6, 2) := by decide +kernel
theorem dX9_direct_131 : decode cX9_direct 131 = .ok (.iconst 0, 1) := by decide +kernel
theorem dX9_direct_132 : decode cX9_direct 132 = .ok (.istore 7, 2) := by decide +kernel
theorem dX9_direct_134 : decode cX9_direct 134 = .ok (.iload 7, 2) := by decide +kernel
theorem dX9_direct_136 : decode cX9_direct 136 = .ok (.iload_n 3, 1) := by decide +kernel
theorem dX9_direct_137 : decode cX9_direct 137 = .ok (.if_icmp .ge 61, 3) := by decide +kernel
theorem dX9_direct_140 : decode cX9_direct 140 = .ok (.iload 5, 2) := by decide +kernel
theorem dX9_direct_142 : decode cX9_direct 142 = .ok (.iload 7, 2) := by decide +kernel
theorem dX9_direct_144 : decode cX9_direct 144 = .ok (.isub, 1) := by decide +kernel
theorem dX9_direct_145 : decode cX9_direct 145 = .ok (.iload_n 3, 1) := by decide +kernel
theorem dX9_direct_146 : decode cX9_direct 146 = .ok (.iadd, 1) := by decide +kernel
theorem dX9_direct_147 : decode cX9_direct 147 = .ok (.iload_n 3, 1) := by decide +kernel
theorem dX9_direct_148 : decode cX9_direct 148 = .ok (.irem, 1) := by decide +kernel
theorem dX9_direct_149 : decode cX9_direct 149 = .ok (.istore 8, 2) := by decide +kernel
theorem dX9_direct_151 : decode cX9_direct 151 = .ok (.iload 8, 2) := by decide +kernel
theorem dX9_direct_153 : decode cX9_direct 153 = .ok (.iload 7, 2) := by decide +kernel
theorem dX9_direct_155 : decode cX9_direct 155 = .ok (.if_icmp .ne 6, 3) := by decide +kernel
theorem dX9_direct_158 : decode cX9_direct 158 = .ok (.goto 34, 3) := by decide +kernel
theorem dX9_direct_161 : decode cX9_direct 161 = .ok (.aload_n 0, 1) := by decide +kernel
theorem dX9_direct_162 : decode cX9_direct 162 = .ok (.iload 4, 2) := by decide +kernel
theorem dX9_direct_164 : decode cX9_direct 164 = .ok (.iload 7, 2) := by decide +kernel
theorem dX9_direct_166 : decode cX9_direct 166 = .ok (.iload 8, 2) := by decide +kernel
theorem dX9_direct_168 : decode cX9_direct 168 = .ok (.iload 8, 2) := by decide +kernel
theorem dX9_direct_170 : decode cX9_direct 170 = .ok (.iconst 1, 1) := by decide +kernel
theorem dX9_direct_171 : decode cX9_direct 171 = .ok (.iload_n 3, 1) := by decide +kernel
theorem dX9_direct_172 : decode cX9_direct 172 = .ok (.iconst 0, 1) := by decide +kernel
theorem dX9_direct_173 : decode cX9_direct 173 = .ok (.invokevirtual 118, 3) := by decide +kernel
theorem dX9_direct_176 : decode cX9_direct 176 = .ok (.aload_n 0, 1) := by decide +kernel
theorem dX9_direct_177 : decode cX9_direct 177 = .ok (.getfield 33, 3) := by decide +kernel
theorem dX9_direct_180 : decode cX9_direct 180 = .ok (.bipush 6, 2) := by decide +kernel
theorem dX9_direct_182 : decode cX9_direct 182 = .ok (.aload_n 0, 1) := by decide +kernel
theorem dX9_direct_183 : decode cX9_direct 183 = .ok (.getfield 115, 3) := by decide +kernel
theorem dX9_direct_186 : decode cX9_direct 186 = .ok (.imul, 1) := by decide +kernel
theorem dX9_direct_187 : decode cX9_direct 187 = .ok (.iconst 2, 1) := by decide +kernel
theorem dX9_direct_188 : decode cX9_direct 188 = .ok (.isub, 1) := by decide +kernel
theorem dX9_direct_189 : decode cX9_direct 189 = .ok (.iload 7, 2) := by decide +kernel
theorem dX9_direct_191 : decode cX9_direct 191 = .ok (.iastore, 1) := by decide +kernel
theorem dX9_direct_192 : decode cX9_direct 192 = .ok (.iinc 7 1, 3) := by decide +kernel
theorem dX9_direct_195 : decode cX9_direct 195 = .ok (.goto (-61), 3) := by decide +kernel
theorem dX9_direct_198 : decode cX9_direct 198 = .ok (.aload_n 0, 1) := by decide +kernel
theorem dX9_direct_199 : decode cX9_direct 199 = .ok (.getfield 115, 3) := by decide +kernel
theorem dX9_direct_202 : decode cX9_direct 202 = .ok (.iload 6, 2) := by decide +kernel
theorem dX9_direct_204 : decode cX9_direct 204 = .ok (.if_icmp .le 6, 3) := by decide +kernel
theorem dX9_direct_207 : decode cX9_direct 207 = .ok (.iinc 4 1, 3) := by decide +kernel
theorem dX9_direct_210 : decode cX9_direct 210 = .ok (.iinc 5 1, 3) := by decide +kernel
theorem dX9_direct_213 : decode cX9_direct 213 = .ok (.goto (-207), 3) := by decide +kernel
theorem dX9_direct_216 : decode cX9_direct 216 = .ok (.return_, 1) := by decide +kernel
set_option maxRecDepth 20000 in
theorem ggX9_isWay_J6_bitCount_0f7a4 : GoodIn wsX9_isWay wsJ6_bitCount_0f7a4 := goodIn_r _ [4, 5, 6, 7] (by decide +kernel) (by decide +kernel)
set_option maxRecDepth 20000 in
theorem gX9_isWay_J6_bitCount_0f7a4 : GoodIn wsX9_isWay (va_wsS RX9 84 yJ6_bitCount_0f7a4 wsJ6_bitCount_0f7a4) := goodIn_app (goodIn_of _ (by decide +kernel)) ggX9_isWay_J6_bitCount_0f7a4
theorem dX9_isWay_0 : decode cX9_isWay 0 = .ok (.iload_n 0, 1) := by decide +kernel
theorem dX9_isWay_1 : decode cX9_isWay 1 = .ok (.tableswitch 73 0 2 #[27, 38, 49], 27) := by decide +kernel
theorem dX9_isWay_28 : decode cX9_isWay 28 = .ok (.iload_n 1, 1) := by decide +kernel
theorem dX9_isWay_29 : decode cX9_isWay 29 = .ok (.iconst 4, 1) := by decide +kernel
theorem dX9_isWay_30 : decode cX9_isWay 30 = .ok (.if_icmp .eq 7, 3) := by decide +kernel
theorem dX9_isWay_33 : decode cX9_isWay 33 = .ok (.iconst 1, 1) := by decide +kernel
theorem dX9_isWay_34 : decode cX9_isWay 34 = .ok (.goto 4, 3) := by decide +kernel
theorem dX9_isWay_37 : decode cX9_isWay 37 = .ok (.iconst 0, 1) := by decide +kernel
theorem dX9_isWay_38 : decode cX9_isWay 38 = .ok (.ireturn, 1) := by decide +kernel
theorem dX9_isWay_39 : decode cX9_isWay 39 = .ok (.iload_n 1, 1) := by decide +kernel
theorem dX9_isWay_40 : decode cX9_isWay 40 = .ok (.iconst 3, 1) := by decide +kernel
theorem dX9_isWay_41 : decode cX9_isWay 41 = .ok (.if_icmp .ge 7, 3) := by decide +kernel
theorem dX9_isWay_44 : decode cX9_isWay 44 = .ok (.iconst 1, 1) := by decide +kernel
theorem dX9_isWay_45 : decode cX9_isWay 45 = .ok (.goto 4, 3) := by decide +kernel
theorem dX9_isWay_48 : decode cX9_isWay 48 = .ok (.iconst 0, 1) := by decide +kernel
theorem dX9_isWay_49 : decode cX9_isWay 49 = .ok (.ireturn, 1) := by decide +kernel
theorem dX9_isWay_50 : decode cX9_isWay 50 = .ok (.iload_n 1, 1) := by decide +kernel
theorem dX9_isWay_51 : decode cX9_isWay 51 = .ok (.iconst 2, 1) := by decide +kernel
theorem dX9_isWay_52 : decode cX9_isWay 52 = .ok (.if_icmp .eq 8, 3) := by decide +kernel
theorem dX9_isWay_55 : decode cX9_isWay 55 = .ok (.iload_n 1, 1) := by decide +kernel
theorem dX9_isWay_56 : decode cX9_isWay 56 = .ok (.iconst 3, 1) := by decide +kernel
theorem dX9_isWay_57 : decode cX9_isWay 57 = .ok (.if_icmp .ne 15, 3) := by decide +kernel
theorem dX9_isWay_60 : decode cX9_isWay 60 = .ok (.iload_n 2, 1) := by decide +kernel
theorem dX9_isWay_61 : decode cX9_isWay 61 = .ok (.invokestatic 84, 3) := by decide +kernel
theorem dX9_isWay_64 : decode cX9_isWay 64 = .ok (.iconst 1, 1) := by decide +kernel
theorem dX9_isWay_65 : decode cX9_isWay 65 = .ok (.if_icmp .ne 7, 3) := by decide +kernel
theorem dX9_isWay_68 : decode cX9_isWay 68 = .ok (.iconst 1, 1) := by decide +kernel
theorem dX9_isWay_69 : decode cX9_isWay 69 = .ok (.goto 4, 3) := by decide +kernel
theorem dX9_isWay_72 : decode cX9_isWay 72 = .ok (.iconst 0, 1) := by decide +kernel
theorem dX9_isWay_73 : decode cX9_isWay 73 = .ok (.ireturn, 1) := by decide +kernel
theorem dX9_isWay_74 : decode cX9_isWay 74 = .ok (.iload_n 1, 1) := by decide +kernel
theorem dX9_isWay_75 : decode cX9_isWay 75 = .ok (.iconst 2, 1) := by decide +kernel
theorem dX9_isWay_76 : decode cX9_isWay 76 = .ok (.if_icmp .eq 7, 3) := by decide +kernel
theorem dX9_isWay_79 : decode cX9_isWay 79 = .ok (.iconst 1, 1) := by decide +kernel
theorem dX9_isWay_80 : decode cX9_isWay 80 = .ok (.goto 4, 3) := by decide +kernel
theorem dX9_isWay_83 : decode cX9_isWay 83 = .ok (.iconst 0, 1) := by decide +kernel
theorem dX9_isWay_84 : decode cX9_isWay 84 = .ok (.ireturn, 1) := by decide +kernel
set_option maxRecDepth 20000 in
theorem ggX9_isAsk_X9_in : GoodIn wsX9_isAsk wsX9_in := goodIn_r _ [4] (by decide +kernel) (by decide +kernel)
set_option maxRecDepth 20000 in
theorem gX9_isAsk_X9_in : GoodIn wsX9_isAsk (va_wsS RX9 65 yX9_in wsX9_in) := goodIn_app (goodIn_of _ (by decide +kernel)) ggX9_isAsk_X9_in
set_option maxRecDepth 20000 in
theorem ggX9_isAsk_X9_isLive : GoodIn wsX9_isAsk wsX9_isLive := goodIn_r _ [8, 9, 10, 11, 12, 3, 13, 14, 1, 2, 4, 15, 16, 17, 18, 19, 20, 21, 22, 23, 24, 25, 26, 27, 28, 29, 30, 31, 32, 33] (by decide +kernel) (by decide +kernel)
set_option maxRecDepth 20000 in
theorem gX9_isAsk_X9_isLive : GoodIn wsX9_isAsk (wsV RX9 94 RX9 yX9_isLive wsX9_isLive) := goodIn_app (goodIn_of _ (by decide +kernel)) ggX9_isAsk_X9_isLive
theorem dX9_isAsk_0 : decode cX9_isAsk 0 = .ok (.iload_n 1, 1) := by decide +kernel
theorem dX9_isAsk_1 : decode cX9_isAsk 1 = .ok (.iconst 0, 1) := by decide +kernel
theorem dX9_isAsk_2 : decode cX9_isAsk 2 = .ok (.iconst 4, 1) := by decide +kernel
theorem dX9_isAsk_3 : decode cX9_isAsk 3 = .ok (.invokestatic 65, 3) := by decide +kernel
theorem dX9_isAsk_6 : decode cX9_isAsk 6 = .ok (.ifCond .eq 15, 3) := by decide +kernel
theorem dX9_isAsk_9 : decode cX9_isAsk 9 = .ok (.aload_n 0, 1) := by decide +kernel
theorem dX9_isAsk_10 : decode cX9_isAsk 10 = .ok (.iload_n 2, 1) := by decide +kernel
theorem dX9_isAsk_11 : decode cX9_isAsk 11 = .ok (.invokevirtual 94, 3) := by decide +kernel
theorem dX9_isAsk_14 : decode cX9_isAsk 14 = .ok (.ifCond .eq 7, 3) := by decide +kernel
theorem dX9_isAsk_17 : decode cX9_isAsk 17 = .ok (.iconst 1, 1) := by decide +kernel
theorem dX9_isAsk_18 : decode cX9_isAsk 18 = .ok (.goto 4, 3) := by decide +kernel
theorem dX9_isAsk_21 : decode cX9_isAsk 21 = .ok (.iconst 0, 1) := by decide +kernel
theorem dX9_isAsk_22 : decode cX9_isAsk 22 = .ok (.ireturn, 1) := by decide +kernel
set_option maxRecDepth 20000 in
theorem ggX9_make_X9_in : GoodIn wsX9_make wsX9_in := goodIn_r _ [6] (by decide +kernel) (by decide +kernel)
set_option maxRecDepth 20000 in
theorem gX9_make_X9_in : GoodIn wsX9_make (va_wsS RX9 65 yX9_in wsX9_in) := goodIn_app (goodIn_of _ (by decide +kernel)) ggX9_make_X9_in
set_option maxRecDepth 20000 in
theorem ggX9_make_X9_isAsk : GoodIn wsX9_make wsX9_isAsk := goodIn_r _ [10, 3, 4, 5, 6, 11, 12, 13, 14, 15, 16, 17, 18, 19, 20, 76, 77, 78, 79, 80, 81, 82, 83, 84, 85, 86, 87, 88, 89, 90, 91, 92, 93, 94] (by decide +kernel) (by decide +kernel)
set_option maxRecDepth 20000 in
theorem gX9_make_X9_isAsk : GoodIn wsX9_make (wsV RX9 129 RX9 yX9_isAsk wsX9_isAsk) := goodIn_app (goodIn_of _ (by decide +kernel)) ggX9_make_X9_isAsk
set_option maxRecDepth 20000 in
theorem ggX9_make_X9_liveMany : GoodIn wsX9_make wsX9_liveMany := goodIn_r _ [24, 20, 15, 76, 77, 78, 79, 80, 81, 82, 83, 84, 85, 86, 87, 88, 89, 90, 91, 92, 93, 94] (by decide +kernel) (by decide +kernel)
set_option maxRecDepth 20000 in
theorem gX9_make_X9_liveMany : GoodIn wsX9_make (wsV RX9 97 RX9 yX9_liveMany wsX9_liveMany) := goodIn_app (goodIn_of _ (by decide +kernel)) ggX9_make_X9_liveMany
set_option maxRecDepth 20000 in
theorem ggX9_make_X9_isWay : GoodIn wsX9_make wsX9_isWay := goodIn_r _ [27, 28, 29, 30, 31, 32, 33, 34] (by decide +kernel) (by decide +kernel)
set_option maxRecDepth 20000 in
theorem gX9_make_X9_isWay : GoodIn wsX9_make (va_wsS RX9 132 yX9_isWay wsX9_isWay) := goodIn_app (goodIn_of _ (by decide +kernel)) ggX9_make_X9_isWay
set_option maxRecDepth 20000 in
theorem ggX9_make_X9_rankOf : GoodIn wsX9_make wsX9_rankOf := goodIn_r _ [38, 15, 76, 77, 78, 79, 80, 81, 82, 83, 84, 85, 86, 87, 88, 89, 90, 91, 92, 93, 94] (by decide +kernel) (by decide +kernel)
set_option maxRecDepth 20000 in
theorem gX9_make_X9_rankOf : GoodIn wsX9_make (wsV RX9 135 RX9 yX9_rankOf wsX9_rankOf) := goodIn_app (goodIn_of _ (by decide +kernel)) ggX9_make_X9_rankOf
set_option maxRecDepth 20000 in
theorem ggX9_make_X9_ring : GoodIn wsX9_make wsX9_ring := goodIn_r _ [42, 43, 44, 45, 5, 46, 2, 1, 47, 48, 49, 50, 51, 15, 52, 53, 54, 55, 56, 76, 77, 78, 79, 80, 81, 82, 83, 84, 85, 86, 87, 88, 89, 90, 91, 92, 93, 94] (by decide +kernel) (by decide +kernel)
set_option maxRecDepth 20000 in
theorem gX9_make_X9_ring : GoodIn wsX9_make (wsV RX9 138 RX9 yX9_ring wsX9_ring) := goodIn_app (goodIn_of _ (by decide +kernel)) ggX9_make_X9_ring
set_option maxRecDepth 20000 in
theorem ggX9_make_X9_tree : GoodIn wsX9_make wsX9_tree := goodIn_r _ [60, 61, 62, 5, 63, 43, 44, 45, 46, 2, 1, 47, 48, 49, 50, 51, 15, 52, 53, 54, 55, 56, 64, 65, 66, 67, 76, 77, 78, 79, 80, 81, 82, 83, 84, 85, 86, 87, 88, 89, 90, 91, 92, 93, 94] (by decide +kernel) (by decide +kernel)
set_option maxRecDepth 20000 in
theorem gX9_make_X9_tree : GoodIn wsX9_make (wsV RX9 141 RX9 yX9_tree wsX9_tree) := goodIn_app (goodIn_of _ (by decide +kernel)) ggX9_make_X9_tree
set_option maxRecDepth 20000 in
theorem ggX9_make_X9_halve : GoodIn wsX9_make wsX9_halve := goodIn_r _ [71, 61, 62, 5, 63, 43, 44, 45, 46, 2, 1, 47, 48, 49, 50, 51, 15, 52, 53, 54, 55, 56, 76, 77, 78, 79, 80, 81, 82, 83, 84, 85, 86, 87, 88, 89, 90, 91, 92, 93, 94] (by decide +kernel) (by decide +kernel)
set_option maxRecDepth 20000 in
theorem gX9_make_X9_halve : GoodIn wsX9_make (wsV RX9 144 RX9 yX9_halve wsX9_halve) := goodIn_app (goodIn_of _ (by decide +kernel)) ggX9_make_X9_halve
set_option maxRecDepth 20000 in
theorem ggX9_make_X9_direct : GoodIn wsX9_make wsX9_direct := goodIn_r _ [75, 1, 47, 43, 44, 45, 5, 46, 2, 48, 49, 50, 51, 15, 52, 53, 54, 55, 56, 76, 77, 78, 79, 80, 81, 82, 83, 84, 85, 86, 87, 88, 89, 90, 91, 92, 93, 94] (by decide +kernel) (by decide +kernel)
set_option maxRecDepth 20000 in
theorem gX9_make_X9_direct : GoodIn wsX9_make (wsV RX9 148 RX9 yX9_direct wsX9_direct) := goodIn_app (goodIn_of _ (by decide +kernel)) ggX9_make_X9_direct
theorem dX9_make_0 : decode cX9_make 0 = .ok (.iload_n 1, 1) := by decide +kernel
theorem dX9_make_1 : decode cX9_make 1 = .ok (.iconst 0, 1) := by decide +kernel
theorem dX9_make_2 : decode cX9_make 2 = .ok (.iconst 3, 1) := by decide +kernel
theorem dX9_make_3 : decode cX9_make 3 = .ok (.invokestatic 65, 3) := by decide +kernel
theorem dX9_make_6 : decode cX9_make 6 = .ok (.ifCond .eq 12, 3) := by decide +kernel
theorem dX9_make_9 : decode cX9_make 9 = .ok (.aload_n 0, 1) := by decide +kernel
theorem dX9_make_10 : decode cX9_make 10 = .ok (.iload_n 2, 1) := by decide +kernel
theorem dX9_make_11 : decode cX9_make 11 = .ok (.iload_n 3, 1) := by decide +kernel
theorem dX9_make_12 : decode cX9_make 12 = .ok (.invokevirtual 129, 3) := by decide +kernel
theorem dX9_make_15 : decode cX9_make 15 = .ok (.ifCond .ne 5, 3) := by decide +kernel
theorem dX9_make_18 : decode cX9_make 18 = .ok (.iconst (-1), 1) := by decide +kernel
theorem dX9_make_19 : decode cX9_make 19 = .ok (.ireturn, 1) := by decide +kernel
theorem dX9_make_20 : decode cX9_make 20 = .ok (.aload_n 0, 1) := by decide +kernel
theorem dX9_make_21 : decode cX9_make 21 = .ok (.invokevirtual 97, 3) := by decide +kernel
theorem dX9_make_24 : decode cX9_make 24 = .ok (.istore 4, 2) := by decide +kernel
theorem dX9_make_26 : decode cX9_make 26 = .ok (.iload_n 1, 1) := by decide +kernel
theorem dX9_make_27 : decode cX9_make 27 = .ok (.iload_n 2, 1) := by decide +kernel
theorem dX9_make_28 : decode cX9_make 28 = .ok (.iload 4, 2) := by decide +kernel
theorem dX9_make_30 : decode cX9_make 30 = .ok (.invokestatic 132, 3) := by decide +kernel
theorem dX9_make_33 : decode cX9_make 33 = .ok (.ifCond .ne 6, 3) := by decide +kernel
theorem dX9_make_36 : decode cX9_make 36 = .ok (.bipush (-2), 2) := by decide +kernel
theorem dX9_make_38 : decode cX9_make 38 = .ok (.ireturn, 1) := by decide +kernel
theorem dX9_make_39 : decode cX9_make 39 = .ok (.aload_n 0, 1) := by decide +kernel
theorem dX9_make_40 : decode cX9_make 40 = .ok (.iload_n 3, 1) := by decide +kernel
theorem dX9_make_41 : decode cX9_make 41 = .ok (.invokevirtual 135, 3) := by decide +kernel
theorem dX9_make_44 : decode cX9_make 44 = .ok (.istore 5, 2) := by decide +kernel
theorem dX9_make_46 : decode cX9_make 46 = .ok (.aload_n 0, 1) := by decide +kernel
theorem dX9_make_47 : decode cX9_make 47 = .ok (.iconst 0, 1) := by decide +kernel
theorem dX9_make_48 : decode cX9_make 48 = .ok (.putfield 115, 3) := by decide +kernel
theorem dX9_make_51 : decode cX9_make 51 = .ok (.aload_n 0, 1) := by decide +kernel
theorem dX9_make_52 : decode cX9_make 52 = .ok (.iconst 0, 1) := by decide +kernel
theorem dX9_make_53 : decode cX9_make 53 = .ok (.putfield 111, 3) := by decide +kernel
theorem dX9_make_56 : decode cX9_make 56 = .ok (.iload_n 1, 1) := by decide +kernel
theorem dX9_make_57 : decode cX9_make 57 = .ok (.ifCond .ne 15, 3) := by decide +kernel
theorem dX9_make_60 : decode cX9_make 60 = .ok (.aload_n 0, 1) := by decide +kernel
theorem dX9_make_61 : decode cX9_make 61 = .ok (.iload_n 2, 1) := by decide +kernel
theorem dX9_make_62 : decode cX9_make 62 = .ok (.iload 5, 2) := by decide +kernel
theorem dX9_make_64 : decode cX9_make 64 = .ok (.iload 4, 2) := by decide +kernel
theorem dX9_make_66 : decode cX9_make 66 = .ok (.invokevirtual 138, 3) := by decide +kernel
theorem dX9_make_69 : decode cX9_make 69 = .ok (.goto 44, 3) := by decide +kernel
theorem dX9_make_72 : decode cX9_make 72 = .ok (.iload_n 1, 1) := by decide +kernel
theorem dX9_make_73 : decode cX9_make 73 = .ok (.iconst 1, 1) := by decide +kernel
theorem dX9_make_74 : decode cX9_make 74 = .ok (.if_icmp .ne 15, 3) := by decide +kernel
theorem dX9_make_77 : decode cX9_make 77 = .ok (.aload_n 0, 1) := by decide +kernel
theorem dX9_make_78 : decode cX9_make 78 = .ok (.iload_n 2, 1) := by decide +kernel
theorem dX9_make_79 : decode cX9_make 79 = .ok (.iload 5, 2) := by decide +kernel
theorem dX9_make_81 : decode cX9_make 81 = .ok (.iload 4, 2) := by decide +kernel
theorem dX9_make_83 : decode cX9_make 83 = .ok (.invokevirtual 141, 3) := by decide +kernel
theorem dX9_make_86 : decode cX9_make 86 = .ok (.goto 27, 3) := by decide +kernel
theorem dX9_make_89 : decode cX9_make 89 = .ok (.iload_n 1, 1) := by decide +kernel
theorem dX9_make_90 : decode cX9_make 90 = .ok (.iconst 2, 1) := by decide +kernel
theorem dX9_make_91 : decode cX9_make 91 = .ok (.if_icmp .ne 13, 3) := by decide +kernel
theorem dX9_make_94 : decode cX9_make 94 = .ok (.aload_n 0, 1) := by decide +kernel
theorem dX9_make_95 : decode cX9_make 95 = .ok (.iload_n 2, 1) := by decide +kernel
theorem dX9_make_96 : decode cX9_make 96 = .ok (.iload 4, 2) := by decide +kernel
theorem dX9_make_98 : decode cX9_make 98 = .ok (.invokevirtual 144, 3) := by decide +kernel
theorem dX9_make_101 : decode cX9_make 101 = .ok (.goto 12, 3) := by decide +kernel
theorem dX9_make_104 : decode cX9_make 104 = .ok (.aload_n 0, 1) := by decide +kernel
theorem dX9_make_105 : decode cX9_make 105 = .ok (.iload_n 2, 1) := by decide +kernel
theorem dX9_make_106 : decode cX9_make 106 = .ok (.iload 5, 2) := by decide +kernel
theorem dX9_make_108 : decode cX9_make 108 = .ok (.iload 4, 2) := by decide +kernel
theorem dX9_make_110 : decode cX9_make 110 = .ok (.invokevirtual 148, 3) := by decide +kernel
theorem dX9_make_113 : decode cX9_make 113 = .ok (.aload_n 0, 1) := by decide +kernel
theorem dX9_make_114 : decode cX9_make 114 = .ok (.getfield 111, 3) := by decide +kernel
theorem dX9_make_117 : decode cX9_make 117 = .ok (.ifCond .eq 8, 3) := by decide +kernel
theorem dX9_make_120 : decode cX9_make 120 = .ok (.bipush (-3), 2) := by decide +kernel
theorem dX9_make_122 : decode cX9_make 122 = .ok (.goto 4, 3) := by decide +kernel
theorem dX9_make_125 : decode cX9_make 125 = .ok (.iconst 0, 1) := by decide +kernel
theorem dX9_make_126 : decode cX9_make 126 = .ok (.ireturn, 1) := by decide +kernel
set_option maxRecDepth 20000 in
theorem ggX9_build_X9_make : GoodIn wsX9_build wsX9_make := goodIn_r _ [10, 3, 11, 12, 13, 9, 14, 15, 16, 17, 18, 19, 20, 21, 22, 23, 24, 25, 26, 27, 28, 29, 30, 31, 32, 33, 34, 35, 36, 37, 38, 39, 40, 41, 42, 43, 44, 45, 46, 47, 48, 49, 50, 51, 52, 53, 54, 4, 55, 56, 57, 58, 59, 60, 61, 62, 63, 64, 65, 66, 67, 68, 69, 70, 71, 72, 73, 74, 75, 76, 77, 78, 79, 80, 81, 82, 93, 94, 95, 96, 97, 98, 99, 100, 101, 102, 103, 104, 105, 106, 107, 108, 109, 110, 111] (by decide +kernel) (by decide +kernel)
set_option maxRecDepth 20000 in
theorem gX9_build_X9_make : GoodIn wsX9_build (wsV RX9 151 RX9 yX9_make wsX9_make) := goodIn_app (goodIn_of _ (by decide +kernel)) ggX9_build_X9_make
set_option maxRecDepth 20000 in
theorem ggX9_build_X9_lay : GoodIn wsX9_build wsX9_lay := goodIn_r _ [86, 2, 5, 87, 88, 9, 89, 93, 94, 95, 96, 97, 98, 99, 100, 101, 102, 103, 104, 105, 106, 107, 108, 109, 110, 111] (by decide +kernel) (by decide +kernel)
set_option maxRecDepth 20000 in
theorem gX9_build_X9_lay : GoodIn wsX9_build (wsV RX9 155 RX9 yX9_lay wsX9_lay) := goodIn_app (goodIn_of _ (by decide +kernel)) ggX9_build_X9_lay
set_option maxRecDepth 20000 in
theorem ggX9_build_X9_stepsOf : GoodIn wsX9_build wsX9_stepsOf := goodIn_r _ [92] (by decide +kernel) (by decide +kernel)
set_option maxRecDepth 20000 in
theorem gX9_build_X9_stepsOf : GoodIn wsX9_build (va_wsS RX9 101 yX9_stepsOf wsX9_stepsOf) := goodIn_app (goodIn_of _ (by decide +kernel)) ggX9_build_X9_stepsOf
theorem dX9_build_0 : decode cX9_build 0 = .ok (.aload_n 0, 1) := by decide +kernel
theorem dX9_build_1 : decode cX9_build 1 = .ok (.iconst 0, 1) := by decide +kernel
theorem dX9_build_2 : decode cX9_build 2 = .ok (.putfield 62, 3) := by decide +kernel
theorem dX9_build_5 : decode cX9_build 5 = .ok (.aload_n 0, 1) := by decide +kernel
theorem dX9_build_6 : decode cX9_build 6 = .ok (.iload_n 1, 1) := by decide +kernel
theorem dX9_build_7 : decode cX9_build 7 = .ok (.iload_n 2, 1) := by decide +kernel
theorem dX9_build_8 : decode cX9_build 8 = .ok (.iload_n 3, 1) := by decide +kernel
theorem dX9_build_9 : decode cX9_build 9 = .ok (.invokevirtual 151, 3) := by decide +kernel
theorem dX9_build_12 : decode cX9_build 12 = .ok (.istore 4, 2) := by decide +kernel
theorem dX9_build_14 : decode cX9_build 14 = .ok (.iload 4, 2) := by decide +kernel
theorem dX9_build_16 : decode cX9_build 16 = .ok (.ifCond .ge 6, 3) := by decide +kernel
theorem dX9_build_19 : decode cX9_build 19 = .ok (.iload 4, 2) := by decide +kernel
theorem dX9_build_21 : decode cX9_build 21 = .ok (.ireturn, 1) := by decide +kernel
theorem dX9_build_22 : decode cX9_build 22 = .ok (.aload_n 0, 1) := by decide +kernel
theorem dX9_build_23 : decode cX9_build 23 = .ok (.iconst 0, 1) := by decide +kernel
theorem dX9_build_24 : decode cX9_build 24 = .ok (.putfield 73, 3) := by decide +kernel
theorem dX9_build_27 : decode cX9_build 27 = .ok (.iconst 0, 1) := by decide +kernel
theorem dX9_build_28 : decode cX9_build 28 = .ok (.istore 5, 2) := by decide +kernel
theorem dX9_build_30 : decode cX9_build 30 = .ok (.iload 5, 2) := by decide +kernel
theorem dX9_build_32 : decode cX9_build 32 = .ok (.aload_n 0, 1) := by decide +kernel
theorem dX9_build_33 : decode cX9_build 33 = .ok (.getfield 115, 3) := by decide +kernel
theorem dX9_build_36 : decode cX9_build 36 = .ok (.if_icmp .ge 83, 3) := by decide +kernel
theorem dX9_build_39 : decode cX9_build 39 = .ok (.aload_n 0, 1) := by decide +kernel
theorem dX9_build_40 : decode cX9_build 40 = .ok (.aload_n 0, 1) := by decide +kernel
theorem dX9_build_41 : decode cX9_build 41 = .ok (.getfield 33, 3) := by decide +kernel
theorem dX9_build_44 : decode cX9_build 44 = .ok (.bipush 6, 2) := by decide +kernel
theorem dX9_build_46 : decode cX9_build 46 = .ok (.iload 5, 2) := by decide +kernel
theorem dX9_build_48 : decode cX9_build 48 = .ok (.imul, 1) := by decide +kernel
theorem dX9_build_49 : decode cX9_build 49 = .ok (.iaload, 1) := by decide +kernel
theorem dX9_build_50 : decode cX9_build 50 = .ok (.aload_n 0, 1) := by decide +kernel
theorem dX9_build_51 : decode cX9_build 51 = .ok (.getfield 33, 3) := by decide +kernel
theorem dX9_build_54 : decode cX9_build 54 = .ok (.bipush 6, 2) := by decide +kernel
theorem dX9_build_56 : decode cX9_build 56 = .ok (.iload 5, 2) := by decide +kernel
theorem dX9_build_58 : decode cX9_build 58 = .ok (.imul, 1) := by decide +kernel
theorem dX9_build_59 : decode cX9_build 59 = .ok (.iconst 1, 1) := by decide +kernel
theorem dX9_build_60 : decode cX9_build 60 = .ok (.iadd, 1) := by decide +kernel
theorem dX9_build_61 : decode cX9_build 61 = .ok (.iaload, 1) := by decide +kernel
theorem dX9_build_62 : decode cX9_build 62 = .ok (.aload_n 0, 1) := by decide +kernel
theorem dX9_build_63 : decode cX9_build 63 = .ok (.getfield 33, 3) := by decide +kernel
theorem dX9_build_66 : decode cX9_build 66 = .ok (.bipush 6, 2) := by decide +kernel
theorem dX9_build_68 : decode cX9_build 68 = .ok (.iload 5, 2) := by decide +kernel
theorem dX9_build_70 : decode cX9_build 70 = .ok (.imul, 1) := by decide +kernel
theorem dX9_build_71 : decode cX9_build 71 = .ok (.iconst 2, 1) := by decide +kernel
theorem dX9_build_72 : decode cX9_build 72 = .ok (.iadd, 1) := by decide +kernel
theorem dX9_build_73 : decode cX9_build 73 = .ok (.iaload, 1) := by decide +kernel
theorem dX9_build_74 : decode cX9_build 74 = .ok (.aload_n 0, 1) := by decide +kernel
theorem dX9_build_75 : decode cX9_build 75 = .ok (.getfield 33, 3) := by decide +kernel
theorem dX9_build_78 : decode cX9_build 78 = .ok (.bipush 6, 2) := by decide +kernel
theorem dX9_build_80 : decode cX9_build 80 = .ok (.iload 5, 2) := by decide +kernel
theorem dX9_build_82 : decode cX9_build 82 = .ok (.imul, 1) := by decide +kernel
theorem dX9_build_83 : decode cX9_build 83 = .ok (.iconst 3, 1) := by decide +kernel
theorem dX9_build_84 : decode cX9_build 84 = .ok (.iadd, 1) := by decide +kernel
theorem dX9_build_85 : decode cX9_build 85 = .ok (.iaload, 1) := by decide +kernel
theorem dX9_build_86 : decode cX9_build 86 = .ok (.aload_n 0, 1) := by decide +kernel
theorem dX9_build_87 : decode cX9_build 87 = .ok (.getfield 33, 3) := by decide +kernel
theorem dX9_build_90 : decode cX9_build 90 = .ok (.bipush 6, 2) := by decide +kernel
theorem dX9_build_92 : decode cX9_build 92 = .ok (.iload 5, 2) := by decide +kernel
theorem dX9_build_94 : decode cX9_build 94 = .ok (.imul, 1) := by decide +kernel
theorem dX9_build_95 : decode cX9_build 95 = .ok (.iconst 4, 1) := by decide +kernel
theorem dX9_build_96 : decode cX9_build 96 = .ok (.iadd, 1) := by decide +kernel
theorem dX9_build_97 : decode cX9_build 97 = .ok (.iaload, 1) := by decide +kernel
theorem dX9_build_98 : decode cX9_build 98 = .ok (.aload_n 0, 1) := by decide +kernel
theorem dX9_build_99 : decode cX9_build 99 = .ok (.getfield 33, 3) := by decide +kernel
theorem dX9_build_102 : decode cX9_build 102 = .ok (.bipush 6, 2) := by decide +kernel
theorem dX9_build_104 : decode cX9_build 104 = .ok (.iload 5, 2) := by decide +kernel
theorem dX9_build_106 : decode cX9_build 106 = .ok (.imul, 1) := by decide +kernel
theorem dX9_build_107 : decode cX9_build 107 = .ok (.iconst 5, 1) := by decide +kernel
theorem dX9_build_108 : decode cX9_build 108 = .ok (.iadd, 1) := by decide +kernel
theorem dX9_build_109 : decode cX9_build 109 = .ok (.iaload, 1) := by decide +kernel
theorem dX9_build_110 : decode cX9_build 110 = .ok (.invokevirtual 155, 3) := by decide +kernel
theorem dX9_build_113 : decode cX9_build 113 = .ok (.iinc 5 1, 3) := by decide +kernel
theorem dX9_build_116 : decode cX9_build 116 = .ok (.goto (-86), 3) := by decide +kernel
theorem dX9_build_119 : decode cX9_build 119 = .ok (.aload_n 0, 1) := by decide +kernel
theorem dX9_build_120 : decode cX9_build 120 = .ok (.getfield 30, 3) := by decide +kernel
theorem dX9_build_123 : decode cX9_build 123 = .ok (.aload_n 0, 1) := by decide +kernel
theorem dX9_build_124 : decode cX9_build 124 = .ok (.getfield 73, 3) := by decide +kernel
theorem dX9_build_127 : decode cX9_build 127 = .ok (.invokestatic 101, 3) := by decide +kernel
theorem dX9_build_130 : decode cX9_build 130 = .ok (.ireturn, 1) := by decide +kernel
theorem dX9_clear_0 : decode cX9_clear 0 = .ok (.aload_n 0, 1) := by decide +kernel
theorem dX9_clear_1 : decode cX9_clear 1 = .ok (.iconst 0, 1) := by decide +kernel
theorem dX9_clear_2 : decode cX9_clear 2 = .ok (.putfield 62, 3) := by decide +kernel
theorem dX9_clear_5 : decode cX9_clear 5 = .ok (.aload_n 0, 1) := by decide +kernel
theorem dX9_clear_6 : decode cX9_clear 6 = .ok (.getfield 73, 3) := by decide +kernel
theorem dX9_clear_9 : decode cX9_clear 9 = .ok (.istore_n 1, 1) := by decide +kernel
theorem dX9_clear_10 : decode cX9_clear 10 = .ok (.aload_n 0, 1) := by decide +kernel
theorem dX9_clear_11 : decode cX9_clear 11 = .ok (.iconst 0, 1) := by decide +kernel
theorem dX9_clear_12 : decode cX9_clear 12 = .ok (.putfield 73, 3) := by decide +kernel
theorem dX9_clear_15 : decode cX9_clear 15 = .ok (.iload_n 1, 1) := by decide +kernel
theorem dX9_clear_16 : decode cX9_clear 16 = .ok (.ireturn, 1) := by decide +kernel
theorem dX9_keyOf_0 : decode cX9_keyOf 0 = .ok (.iload_n 0, 1) := by decide +kernel
theorem dX9_keyOf_1 : decode cX9_keyOf 1 = .ok (.bipush 16, 2) := by decide +kernel
theorem dX9_keyOf_3 : decode cX9_keyOf 3 = .ok (.imul, 1) := by decide +kernel
theorem dX9_keyOf_4 : decode cX9_keyOf 4 = .ok (.iload_n 1, 1) := by decide +kernel
theorem dX9_keyOf_5 : decode cX9_keyOf 5 = .ok (.iadd, 1) := by decide +kernel
theorem dX9_keyOf_6 : decode cX9_keyOf 6 = .ok (.bipush 16, 2) := by decide +kernel
theorem dX9_keyOf_8 : decode cX9_keyOf 8 = .ok (.imul, 1) := by decide +kernel
theorem dX9_keyOf_9 : decode cX9_keyOf 9 = .ok (.iload_n 2, 1) := by decide +kernel
theorem dX9_keyOf_10 : decode cX9_keyOf 10 = .ok (.iadd, 1) := by decide +kernel
theorem dX9_keyOf_11 : decode cX9_keyOf 11 = .ok (.ireturn, 1) := by decide +kernel
set_option maxRecDepth 20000 in
theorem ggX9_lay_X9_keyOf : GoodIn wsX9_lay wsX9_keyOf := goodIn_r _ [6] (by decide +kernel) (by decide +kernel)
set_option maxRecDepth 20000 in
theorem gX9_lay_X9_keyOf : GoodIn wsX9_lay (va_wsS RX9 159 yX9_keyOf wsX9_keyOf) := goodIn_app (goodIn_of _ (by decide +kernel)) ggX9_lay_X9_keyOf
theorem dX9_lay_0 : decode cX9_lay 0 = .ok (.aload_n 0, 1) := by decide +kernel
theorem dX9_lay_1 : decode cX9_lay 1 = .ok (.getfield 73, 3) := by decide +kernel
theorem dX9_lay_4 : decode cX9_lay 4 = .ok (.istore 7, 2) := by decide +kernel
theorem dX9_lay_6 : decode cX9_lay 6 = .ok (.iload 7, 2) := by decide +kernel
theorem dX9_lay_8 : decode cX9_lay 8 = .ok (.ifCond .le 104, 3) := by decide +kernel
theorem dX9_lay_11 : decode cX9_lay 11 = .ok (.aload_n 0, 1) := by decide +kernel
theorem dX9_lay_12 : decode cX9_lay 12 = .ok (.getfield 30, 3) := by decide +kernel
theorem dX9_lay_15 : decode cX9_lay 15 = .ok (.bipush 6, 2) := by decide +kernel
theorem dX9_lay_17 : decode cX9_lay 17 = .ok (.iload 7, 2) := by decide +kernel
theorem dX9_lay_19 : decode cX9_lay 19 = .ok (.imul, 1) := by decide +kernel
theorem dX9_lay_20 : decode cX9_lay 20 = .ok (.bipush 6, 2) := by decide +kernel
theorem dX9_lay_22 : decode cX9_lay 22 = .ok (.isub, 1) := by decide +kernel
theorem dX9_lay_23 : decode cX9_lay 23 = .ok (.iaload, 1) := by decide +kernel
theorem dX9_lay_24 : decode cX9_lay 24 = .ok (.aload_n 0, 1) := by decide +kernel
theorem dX9_lay_25 : decode cX9_lay 25 = .ok (.getfield 30, 3) := by decide +kernel
theorem dX9_lay_28 : decode cX9_lay 28 = .ok (.bipush 6, 2) := by decide +kernel
theorem dX9_lay_30 : decode cX9_lay 30 = .ok (.iload 7, 2) := by decide +kernel
theorem dX9_lay_32 : decode cX9_lay 32 = .ok (.imul, 1) := by decide +kernel
theorem dX9_lay_33 : decode cX9_lay 33 = .ok (.iconst 5, 1) := by decide +kernel
theorem dX9_lay_34 : decode cX9_lay 34 = .ok (.isub, 1) := by decide +kernel
theorem dX9_lay_35 : decode cX9_lay 35 = .ok (.iaload, 1) := by decide +kernel
theorem dX9_lay_36 : decode cX9_lay 36 = .ok (.aload_n 0, 1) := by decide +kernel
theorem dX9_lay_37 : decode cX9_lay 37 = .ok (.getfield 30, 3) := by decide +kernel
theorem dX9_lay_40 : decode cX9_lay 40 = .ok (.bipush 6, 2) := by decide +kernel
theorem dX9_lay_42 : decode cX9_lay 42 = .ok (.iload 7, 2) := by decide +kernel
theorem dX9_lay_44 : decode cX9_lay 44 = .ok (.imul, 1) := by decide +kernel
theorem dX9_lay_45 : decode cX9_lay 45 = .ok (.iconst 2, 1) := by decide +kernel
theorem dX9_lay_46 : decode cX9_lay 46 = .ok (.isub, 1) := by decide +kernel
theorem dX9_lay_47 : decode cX9_lay 47 = .ok (.iaload, 1) := by decide +kernel
theorem dX9_lay_48 : decode cX9_lay 48 = .ok (.invokestatic 159, 3) := by decide +kernel
theorem dX9_lay_51 : decode cX9_lay 51 = .ok (.iload_n 1, 1) := by decide +kernel
theorem dX9_lay_52 : decode cX9_lay 52 = .ok (.iload_n 2, 1) := by decide +kernel
theorem dX9_lay_53 : decode cX9_lay 53 = .ok (.iload 5, 2) := by decide +kernel
theorem dX9_lay_55 : decode cX9_lay 55 = .ok (.invokestatic 159, 3) := by decide +kernel
theorem dX9_lay_58 : decode cX9_lay 58 = .ok (.if_icmp .le 54, 3) := by decide +kernel
theorem dX9_lay_61 : decode cX9_lay 61 = .ok (.iconst 0, 1) := by decide +kernel
theorem dX9_lay_62 : decode cX9_lay 62 = .ok (.istore 8, 2) := by decide +kernel
theorem dX9_lay_64 : decode cX9_lay 64 = .ok (.iload 8, 2) := by decide +kernel
theorem dX9_lay_66 : decode cX9_lay 66 = .ok (.bipush 6, 2) := by decide +kernel
theorem dX9_lay_68 : decode cX9_lay 68 = .ok (.if_icmp .ge 38, 3) := by decide +kernel
theorem dX9_lay_71 : decode cX9_lay 71 = .ok (.aload_n 0, 1) := by decide +kernel
theorem dX9_lay_72 : decode cX9_lay 72 = .ok (.getfield 30, 3) := by decide +kernel
theorem dX9_lay_75 : decode cX9_lay 75 = .ok (.bipush 6, 2) := by decide +kernel
theorem dX9_lay_77 : decode cX9_lay 77 = .ok (.iload 7, 2) := by decide +kernel
theorem dX9_lay_79 : decode cX9_lay 79 = .ok (.imul, 1) := by decide +kernel
theorem dX9_lay_80 : decode cX9_lay 80 = .ok (.iload 8, 2) := by decide +kernel
theorem dX9_lay_82 : decode cX9_lay 82 = .ok (.iadd, 1) := by decide +kernel
theorem dX9_lay_83 : decode cX9_lay 83 = .ok (.aload_n 0, 1) := by decide +kernel
theorem dX9_lay_84 : decode cX9_lay 84 = .ok (.getfield 30, 3) := by decide +kernel
theorem dX9_lay_87 : decode cX9_lay 87 = .ok (.bipush 6, 2) := by decide +kernel
theorem dX9_lay_89 : decode cX9_lay 89 = .ok (.iload 7, 2) := by decide +kernel
theorem dX9_lay_91 : decode cX9_lay 91 = .ok (.imul, 1) := by decide +kernel
theorem dX9_lay_92 : decode cX9_lay 92 = .ok (.bipush 6, 2) := by decide +kernel
theorem dX9_lay_94 : decode cX9_lay 94 = .ok (.isub, 1) := by decide +kernel
theorem dX9_lay_95 : decode cX9_lay 95 = .ok (.iload 8, 2) := by decide +kernel
theorem dX9_lay_97 : decode cX9_lay 97 = .ok (.iadd, 1) := by decide +kernel
theorem dX9_lay_98 : decode cX9_lay 98 = .ok (.iaload, 1) := by decide +kernel
theorem dX9_lay_99 : decode cX9_lay 99 = .ok (.iastore, 1) := by decide +kernel
theorem dX9_lay_100 : decode cX9_lay 100 = .ok (.iinc 8 1, 3) := by decide +kernel
theorem dX9_lay_103 : decode cX9_lay 103 = .ok (.goto (-39), 3) := by decide +kernel
theorem dX9_lay_106 : decode cX9_lay 106 = .ok (.iinc 7 (-1), 3) := by decide +kernel
theorem dX9_lay_109 : decode cX9_lay 109 = .ok (.goto (-103), 3) := by decide +kernel
theorem dX9_lay_112 : decode cX9_lay 112 = .ok (.bipush 6, 2) := by decide +kernel
theorem dX9_lay_114 : decode cX9_lay 114 = .ok (.iload 7, 2) := by decide +kernel
theorem dX9_lay_116 : decode cX9_lay 116 = .ok (.imul, 1) := by decide +kernel
theorem dX9_lay_117 : decode cX9_lay 117 = .ok (.istore 8, 2) := by decide +kernel
theorem dX9_lay_119 : decode cX9_lay 119 = .ok (.aload_n 0, 1) := by decide +kernel
theorem dX9_lay_120 : decode cX9_lay 120 = .ok (.getfield 30, 3) := by decide +kernel
theorem dX9_lay_123 : decode cX9_lay 123 = .ok (.iload 8, 2) := by decide +kernel
theorem dX9_lay_125 : decode cX9_lay 125 = .ok (.iload_n 1, 1) := by decide +kernel
theorem dX9_lay_126 : decode cX9_lay 126 = .ok (.iastore, 1) := by decide +kernel
theorem dX9_lay_127 : decode cX9_lay 127 = .ok (.aload_n 0, 1) := by decide +kernel
theorem dX9_lay_128 : decode cX9_lay 128 = .ok (.getfield 30, 3) := by decide +kernel
theorem dX9_lay_131 : decode cX9_lay 131 = .ok (.iload 8, 2) := by decide +kernel
theorem dX9_lay_133 : decode cX9_lay 133 = .ok (.iconst 1, 1) := by decide +kernel
theorem dX9_lay_134 : decode cX9_lay 134 = .ok (.iadd, 1) := by decide +kernel
theorem dX9_lay_135 : decode cX9_lay 135 = .ok (.iload_n 2, 1) := by decide +kernel
theorem dX9_lay_136 : decode cX9_lay 136 = .ok (.iastore, 1) := by decide +kernel
theorem dX9_lay_137 : decode cX9_lay 137 = .ok (.aload_n 0, 1) := by decide +kernel
theorem dX9_lay_138 : decode cX9_lay 138 = .ok (.getfield 30, 3) := by decide +kernel
theorem dX9_lay_141 : decode cX9_lay 141 = .ok (.iload 8, 2) := by decide +kernel
theorem dX9_lay_143 : decode cX9_lay 143 = .ok (.iconst 2, 1) := by decide +kernel
theorem dX9_lay_144 : decode cX9_lay 144 = .ok (.iadd, 1) := by decide +kernel
theorem dX9_lay_145 : decode cX9_lay 145 = .ok (.iload_n 3, 1) := by decide +kernel
theorem dX9_lay_146 : decode cX9_lay 146 = .ok (.iastore, 1) := by decide +kernel
theorem dX9_lay_147 : decode cX9_lay 147 = .ok (.aload_n 0, 1) := by decide +kernel
theorem dX9_lay_148 : decode cX9_lay 148 = .ok (.getfield 30, 3) := by decide +kernel
theorem dX9_lay_151 : decode cX9_lay 151 = .ok (.iload 8, 2) := by decide +kernel
theorem dX9_lay_153 : decode cX9_lay 153 = .ok (.iconst 3, 1) := by decide +kernel
theorem dX9_lay_154 : decode cX9_lay 154 = .ok (.iadd, 1) := by decide +kernel
theorem dX9_lay_155 : decode cX9_lay 155 = .ok (.iload 4, 2) := by decide +kernel
theorem dX9_lay_157 : decode cX9_lay 157 = .ok (.iastore, 1) := by decide +kernel
theorem dX9_lay_158 : decode cX9_lay 158 = .ok (.aload_n 0, 1) := by decide +kernel
theorem dX9_lay_159 : decode cX9_lay 159 = .ok (.getfield 30, 3) := by decide +kernel
theorem dX9_lay_162 : decode cX9_lay 162 = .ok (.iload 8, 2) := by decide +kernel
theorem dX9_lay_164 : decode cX9_lay 164 = .ok (.iconst 4, 1) := by decide +kernel
theorem dX9_lay_165 : decode cX9_lay 165 = .ok (.iadd, 1) := by decide +kernel
theorem dX9_lay_166 : decode cX9_lay 166 = .ok (.iload 5, 2) := by decide +kernel
theorem dX9_lay_168 : decode cX9_lay 168 = .ok (.iastore, 1) := by decide +kernel
theorem dX9_lay_169 : decode cX9_lay 169 = .ok (.aload_n 0, 1) := by decide +kernel
theorem dX9_lay_170 : decode cX9_lay 170 = .ok (.getfield 30, 3) := by decide +kernel
theorem dX9_lay_173 : decode cX9_lay 173 = .ok (.iload 8, 2) := by decide +kernel
theorem dX9_lay_175 : decode cX9_lay 175 = .ok (.iconst 5, 1) := by decide +kernel
theorem dX9_lay_176 : decode cX9_lay 176 = .ok (.iadd, 1) := by decide +kernel
theorem dX9_lay_177 : decode cX9_lay 177 = .ok (.iload 6, 2) := by decide +kernel
theorem dX9_lay_179 : decode cX9_lay 179 = .ok (.iastore, 1) := by decide +kernel
theorem dX9_lay_180 : decode cX9_lay 180 = .ok (.aload_n 0, 1) := by decide +kernel
theorem dX9_lay_181 : decode cX9_lay 181 = .ok (.dup, 1) := by decide +kernel
theorem dX9_lay_182 : decode cX9_lay 182 = .ok (.getfield 73, 3) := by decide +kernel
theorem dX9_lay_185 : decode cX9_lay 185 = .ok (.iconst 1, 1) := by decide +kernel
theorem dX9_lay_186 : decode cX9_lay 186 = .ok (.iadd, 1) := by decide +kernel
theorem dX9_lay_187 : decode cX9_lay 187 = .ok (.putfield 73, 3) := by decide +kernel
theorem dX9_lay_190 : decode cX9_lay 190 = .ok (.return_, 1) := by decide +kernel
set_option maxRecDepth 20000 in
theorem ggX9_send_X9_in : GoodIn wsX9_send wsX9_in := goodIn_r _ [7] (by decide +kernel) (by decide +kernel)
set_option maxRecDepth 20000 in
theorem gX9_send_X9_in : GoodIn wsX9_send (va_wsS RX9 65 yX9_in wsX9_in) := goodIn_app (goodIn_of _ (by decide +kernel)) ggX9_send_X9_in
set_option maxRecDepth 20000 in
theorem ggX9_send_X9_isLive : GoodIn wsX9_send wsX9_isLive := goodIn_r _ [11, 12, 13, 14, 15, 6, 16, 17, 4, 5, 7, 30, 31, 32, 33, 34, 35, 36, 37, 38, 39, 40, 41, 42, 43, 44, 45, 46, 47, 48] (by decide +kernel) (by decide +kernel)
set_option maxRecDepth 20000 in
theorem gX9_send_X9_isLive : GoodIn wsX9_send (wsV RX9 94 RX9 yX9_isLive wsX9_isLive) := goodIn_app (goodIn_of _ (by decide +kernel)) ggX9_send_X9_isLive
set_option maxRecDepth 20000 in
theorem ggX9_send_X9_areJoined : GoodIn wsX9_send wsX9_areJoined := goodIn_r _ [21, 22, 30, 31, 32, 33, 34, 35, 36, 37, 38, 39, 40, 41, 42, 43, 44, 45, 46, 47, 48] (by decide +kernel) (by decide +kernel)
set_option maxRecDepth 20000 in
theorem gX9_send_X9_areJoined : GoodIn wsX9_send (wsV RX9 80 RX9 yX9_areJoined wsX9_areJoined) := goodIn_app (goodIn_of _ (by decide +kernel)) ggX9_send_X9_areJoined
set_option maxRecDepth 20000 in
theorem ggX9_send_X9_lay : GoodIn wsX9_send wsX9_lay := goodIn_r _ [26, 2, 3, 27, 28, 6, 29, 30, 31, 32, 33, 34, 35, 36, 37, 38, 39, 40, 41, 42, 43, 44, 45, 46, 47, 48] (by decide +kernel) (by decide +kernel)
set_option maxRecDepth 20000 in
theorem gX9_send_X9_lay : GoodIn wsX9_send (wsV RX9 155 RX9 yX9_lay wsX9_lay) := goodIn_app (goodIn_of _ (by decide +kernel)) ggX9_send_X9_lay
theorem dX9_send_0 : decode cX9_send 0 = .ok (.aload_n 0, 1) := by decide +kernel
theorem dX9_send_1 : decode cX9_send 1 = .ok (.iconst 0, 1) := by decide +kernel
theorem dX9_send_2 : decode cX9_send 2 = .ok (.putfield 62, 3) := by decide +kernel
theorem dX9_send_5 : decode cX9_send 5 = .ok (.iload_n 1, 1) := by decide +kernel
theorem dX9_send_6 : decode cX9_send 6 = .ok (.iconst 0, 1) := by decide +kernel
theorem dX9_send_7 : decode cX9_send 7 = .ok (.bipush 63, 2) := by decide +kernel
theorem dX9_send_9 : decode cX9_send 9 = .ok (.invokestatic 65, 3) := by decide +kernel
theorem dX9_send_12 : decode cX9_send 12 = .ok (.ifCond .eq 65, 3) := by decide +kernel
theorem dX9_send_15 : decode cX9_send 15 = .ok (.aload_n 0, 1) := by decide +kernel
theorem dX9_send_16 : decode cX9_send 16 = .ok (.iload_n 2, 1) := by decide +kernel
theorem dX9_send_17 : decode cX9_send 17 = .ok (.invokevirtual 94, 3) := by decide +kernel
theorem dX9_send_20 : decode cX9_send 20 = .ok (.ifCond .eq 57, 3) := by decide +kernel
theorem dX9_send_23 : decode cX9_send 23 = .ok (.aload_n 0, 1) := by decide +kernel
theorem dX9_send_24 : decode cX9_send 24 = .ok (.iload_n 3, 1) := by decide +kernel
theorem dX9_send_25 : decode cX9_send 25 = .ok (.invokevirtual 94, 3) := by decide +kernel
theorem dX9_send_28 : decode cX9_send 28 = .ok (.ifCond .eq 49, 3) := by decide +kernel
theorem dX9_send_31 : decode cX9_send 31 = .ok (.iload_n 2, 1) := by decide +kernel
theorem dX9_send_32 : decode cX9_send 32 = .ok (.iload_n 3, 1) := by decide +kernel
theorem dX9_send_33 : decode cX9_send 33 = .ok (.if_icmp .eq 44, 3) := by decide +kernel
theorem dX9_send_36 : decode cX9_send 36 = .ok (.iload 4, 2) := by decide +kernel
theorem dX9_send_38 : decode cX9_send 38 = .ok (.iconst 0, 1) := by decide +kernel
theorem dX9_send_39 : decode cX9_send 39 = .ok (.bipush 15, 2) := by decide +kernel
theorem dX9_send_41 : decode cX9_send 41 = .ok (.invokestatic 65, 3) := by decide +kernel
theorem dX9_send_44 : decode cX9_send 44 = .ok (.ifCond .eq 33, 3) := by decide +kernel
theorem dX9_send_47 : decode cX9_send 47 = .ok (.iload 5, 2) := by decide +kernel
theorem dX9_send_49 : decode cX9_send 49 = .ok (.iconst 0, 1) := by decide +kernel
theorem dX9_send_50 : decode cX9_send 50 = .ok (.bipush 15, 2) := by decide +kernel
theorem dX9_send_52 : decode cX9_send 52 = .ok (.invokestatic 65, 3) := by decide +kernel
theorem dX9_send_55 : decode cX9_send 55 = .ok (.ifCond .eq 22, 3) := by decide +kernel
theorem dX9_send_58 : decode cX9_send 58 = .ok (.aload_n 0, 1) := by decide +kernel
theorem dX9_send_59 : decode cX9_send 59 = .ok (.iload_n 2, 1) := by decide +kernel
theorem dX9_send_60 : decode cX9_send 60 = .ok (.iload_n 3, 1) := by decide +kernel
theorem dX9_send_61 : decode cX9_send 61 = .ok (.invokevirtual 80, 3) := by decide +kernel
theorem dX9_send_64 : decode cX9_send 64 = .ok (.ifCond .eq 13, 3) := by decide +kernel
theorem dX9_send_67 : decode cX9_send 67 = .ok (.aload_n 0, 1) := by decide +kernel
theorem dX9_send_68 : decode cX9_send 68 = .ok (.getfield 73, 3) := by decide +kernel
theorem dX9_send_71 : decode cX9_send 71 = .ok (.sipush 1200, 3) := by decide +kernel
theorem dX9_send_74 : decode cX9_send 74 = .ok (.if_icmp .ne 5, 3) := by decide +kernel
theorem dX9_send_77 : decode cX9_send 77 = .ok (.iconst (-1), 1) := by decide +kernel
theorem dX9_send_78 : decode cX9_send 78 = .ok (.ireturn, 1) := by decide +kernel
theorem dX9_send_79 : decode cX9_send 79 = .ok (.iconst 0, 1) := by decide +kernel
theorem dX9_send_80 : decode cX9_send 80 = .ok (.istore 7, 2) := by decide +kernel
theorem dX9_send_82 : decode cX9_send 82 = .ok (.iload 7, 2) := by decide +kernel
theorem dX9_send_84 : decode cX9_send 84 = .ok (.aload_n 0, 1) := by decide +kernel
theorem dX9_send_85 : decode cX9_send 85 = .ok (.getfield 73, 3) := by decide +kernel
theorem dX9_send_88 : decode cX9_send 88 = .ok (.if_icmp .ge 103, 3) := by decide +kernel
theorem dX9_send_91 : decode cX9_send 91 = .ok (.aload_n 0, 1) := by decide +kernel
theorem dX9_send_92 : decode cX9_send 92 = .ok (.getfield 30, 3) := by decide +kernel
theorem dX9_send_95 : decode cX9_send 95 = .ok (.bipush 6, 2) := by decide +kernel
theorem dX9_send_97 : decode cX9_send 97 = .ok (.iload 7, 2) := by decide +kernel
theorem dX9_send_99 : decode cX9_send 99 = .ok (.imul, 1) := by decide +kernel
theorem dX9_send_100 : decode cX9_send 100 = .ok (.iaload, 1) := by decide +kernel
theorem dX9_send_101 : decode cX9_send 101 = .ok (.iload_n 1, 1) := by decide +kernel
theorem dX9_send_102 : decode cX9_send 102 = .ok (.if_icmp .eq 6, 3) := by decide +kernel
theorem dX9_send_105 : decode cX9_send 105 = .ok (.goto 80, 3) := by decide +kernel
theorem dX9_send_108 : decode cX9_send 108 = .ok (.aload_n 0, 1) := by decide +kernel
theorem dX9_send_109 : decode cX9_send 109 = .ok (.getfield 30, 3) := by decide +kernel
theorem dX9_send_112 : decode cX9_send 112 = .ok (.bipush 6, 2) := by decide +kernel
theorem dX9_send_114 : decode cX9_send 114 = .ok (.iload 7, 2) := by decide +kernel
theorem dX9_send_116 : decode cX9_send 116 = .ok (.imul, 1) := by decide +kernel
theorem dX9_send_117 : decode cX9_send 117 = .ok (.iconst 1, 1) := by decide +kernel
theorem dX9_send_118 : decode cX9_send 118 = .ok (.iadd, 1) := by decide +kernel
theorem dX9_send_119 : decode cX9_send 119 = .ok (.iaload, 1) := by decide +kernel
theorem dX9_send_120 : decode cX9_send 120 = .ok (.iload_n 2, 1) := by decide +kernel
theorem dX9_send_121 : decode cX9_send 121 = .ok (.if_icmp .ne 7, 3) := by decide +kernel
theorem dX9_send_124 : decode cX9_send 124 = .ok (.iconst 1, 1) := by decide +kernel
theorem dX9_send_125 : decode cX9_send 125 = .ok (.goto 4, 3) := by decide +kernel
theorem dX9_send_128 : decode cX9_send 128 = .ok (.iconst 0, 1) := by decide +kernel
theorem dX9_send_129 : decode cX9_send 129 = .ok (.istore 8, 2) := by decide +kernel
theorem dX9_send_131 : decode cX9_send 131 = .ok (.aload_n 0, 1) := by decide +kernel
theorem dX9_send_132 : decode cX9_send 132 = .ok (.getfield 30, 3) := by decide +kernel
theorem dX9_send_135 : decode cX9_send 135 = .ok (.bipush 6, 2) := by decide +kernel
theorem dX9_send_137 : decode cX9_send 137 = .ok (.iload 7, 2) := by decide +kernel
theorem dX9_send_139 : decode cX9_send 139 = .ok (.imul, 1) := by decide +kernel
theorem dX9_send_140 : decode cX9_send 140 = .ok (.iconst 2, 1) := by decide +kernel
theorem dX9_send_141 : decode cX9_send 141 = .ok (.iadd, 1) := by decide +kernel
theorem dX9_send_142 : decode cX9_send 142 = .ok (.iaload, 1) := by decide +kernel
theorem dX9_send_143 : decode cX9_send 143 = .ok (.iload_n 3, 1) := by decide +kernel
theorem dX9_send_144 : decode cX9_send 144 = .ok (.if_icmp .ne 7, 3) := by decide +kernel
theorem dX9_send_147 : decode cX9_send 147 = .ok (.iconst 1, 1) := by decide +kernel
theorem dX9_send_148 : decode cX9_send 148 = .ok (.goto 4, 3) := by decide +kernel
theorem dX9_send_151 : decode cX9_send 151 = .ok (.iconst 0, 1) := by decide +kernel
theorem dX9_send_152 : decode cX9_send 152 = .ok (.istore 9, 2) := by decide +kernel
theorem dX9_send_154 : decode cX9_send 154 = .ok (.iload 8, 2) := by decide +kernel
theorem dX9_send_156 : decode cX9_send 156 = .ok (.iload 9, 2) := by decide +kernel
theorem dX9_send_158 : decode cX9_send 158 = .ok (.if_icmp .ne 25, 3) := by decide +kernel
theorem dX9_send_161 : decode cX9_send 161 = .ok (.iload 9, 2) := by decide +kernel
theorem dX9_send_163 : decode cX9_send 163 = .ok (.ifCond .eq 22, 3) := by decide +kernel
theorem dX9_send_166 : decode cX9_send 166 = .ok (.aload_n 0, 1) := by decide +kernel
theorem dX9_send_167 : decode cX9_send 167 = .ok (.getfield 30, 3) := by decide +kernel
theorem dX9_send_170 : decode cX9_send 170 = .ok (.bipush 6, 2) := by decide +kernel
theorem dX9_send_172 : decode cX9_send 172 = .ok (.iload 7, 2) := by decide +kernel
theorem dX9_send_174 : decode cX9_send 174 = .ok (.imul, 1) := by decide +kernel
theorem dX9_send_175 : decode cX9_send 175 = .ok (.iconst 4, 1) := by decide +kernel
theorem dX9_send_176 : decode cX9_send 176 = .ok (.iadd, 1) := by decide +kernel
theorem dX9_send_177 : decode cX9_send 177 = .ok (.iaload, 1) := by decide +kernel
theorem dX9_send_178 : decode cX9_send 178 = .ok (.iload 5, 2) := by decide +kernel
theorem dX9_send_180 : decode cX9_send 180 = .ok (.if_icmp .ne 5, 3) := by decide +kernel
theorem dX9_send_183 : decode cX9_send 183 = .ok (.iconst (-1), 1) := by decide +kernel
theorem dX9_send_184 : decode cX9_send 184 = .ok (.ireturn, 1) := by decide +kernel
theorem dX9_send_185 : decode cX9_send 185 = .ok (.iinc 7 1, 3) := by decide +kernel
theorem dX9_send_188 : decode cX9_send 188 = .ok (.goto (-106), 3) := by decide +kernel
theorem dX9_send_191 : decode cX9_send 191 = .ok (.aload_n 0, 1) := by decide +kernel
theorem dX9_send_192 : decode cX9_send 192 = .ok (.iload_n 1, 1) := by decide +kernel
theorem dX9_send_193 : decode cX9_send 193 = .ok (.iload_n 2, 1) := by decide +kernel
theorem dX9_send_194 : decode cX9_send 194 = .ok (.iload_n 3, 1) := by decide +kernel
theorem dX9_send_195 : decode cX9_send 195 = .ok (.iload 4, 2) := by decide +kernel
theorem dX9_send_197 : decode cX9_send 197 = .ok (.iload 5, 2) := by decide +kernel
theorem dX9_send_199 : decode cX9_send 199 = .ok (.iload 6, 2) := by decide +kernel
theorem dX9_send_201 : decode cX9_send 201 = .ok (.ifCond .eq 7, 3) := by decide +kernel
theorem dX9_send_204 : decode cX9_send 204 = .ok (.iconst 1, 1) := by decide +kernel
theorem dX9_send_205 : decode cX9_send 205 = .ok (.goto 4, 3) := by decide +kernel
theorem dX9_send_208 : decode cX9_send 208 = .ok (.iconst 0, 1) := by decide +kernel
theorem dX9_send_209 : decode cX9_send 209 = .ok (.invokevirtual 155, 3) := by decide +kernel
theorem dX9_send_212 : decode cX9_send 212 = .ok (.aload_n 0, 1) := by decide +kernel
theorem dX9_send_213 : decode cX9_send 213 = .ok (.getfield 73, 3) := by decide +kernel
theorem dX9_send_216 : decode cX9_send 216 = .ok (.ireturn, 1) := by decide +kernel
set_option maxRecDepth 20000 in
theorem ggX9_sent_X9_in : GoodIn wsX9_sent wsX9_in := goodIn_r _ [7] (by decide +kernel) (by decide +kernel)
set_option maxRecDepth 20000 in
theorem gX9_sent_X9_in : GoodIn wsX9_sent (va_wsS RX9 65 yX9_in wsX9_in) := goodIn_app (goodIn_of _ (by decide +kernel)) ggX9_sent_X9_in
theorem dX9_sent_0 : decode cX9_sent 0 = .ok (.aload_n 0, 1) := by decide +kernel
theorem dX9_sent_1 : decode cX9_sent 1 = .ok (.iconst 0, 1) := by decide +kernel
theorem dX9_sent_2 : decode cX9_sent 2 = .ok (.putfield 62, 3) := by decide +kernel
theorem dX9_sent_5 : decode cX9_sent 5 = .ok (.iload_n 1, 1) := by decide +kernel
theorem dX9_sent_6 : decode cX9_sent 6 = .ok (.iconst 0, 1) := by decide +kernel
theorem dX9_sent_7 : decode cX9_sent 7 = .ok (.aload_n 0, 1) := by decide +kernel
theorem dX9_sent_8 : decode cX9_sent 8 = .ok (.getfield 73, 3) := by decide +kernel
theorem dX9_sent_11 : decode cX9_sent 11 = .ok (.iconst 1, 1) := by decide +kernel
theorem dX9_sent_12 : decode cX9_sent 12 = .ok (.isub, 1) := by decide +kernel
theorem dX9_sent_13 : decode cX9_sent 13 = .ok (.invokestatic 65, 3) := by decide +kernel
theorem dX9_sent_16 : decode cX9_sent 16 = .ok (.ifCond .eq 26, 3) := by decide +kernel
theorem dX9_sent_19 : decode cX9_sent 19 = .ok (.iload_n 2, 1) := by decide +kernel
theorem dX9_sent_20 : decode cX9_sent 20 = .ok (.iconst 0, 1) := by decide +kernel
theorem dX9_sent_21 : decode cX9_sent 21 = .ok (.iconst 5, 1) := by decide +kernel
theorem dX9_sent_22 : decode cX9_sent 22 = .ok (.invokestatic 65, 3) := by decide +kernel
theorem dX9_sent_25 : decode cX9_sent 25 = .ok (.ifCond .eq 17, 3) := by decide +kernel
theorem dX9_sent_28 : decode cX9_sent 28 = .ok (.aload_n 0, 1) := by decide +kernel
theorem dX9_sent_29 : decode cX9_sent 29 = .ok (.getfield 30, 3) := by decide +kernel
theorem dX9_sent_32 : decode cX9_sent 32 = .ok (.bipush 6, 2) := by decide +kernel
theorem dX9_sent_34 : decode cX9_sent 34 = .ok (.iload_n 1, 1) := by decide +kernel
theorem dX9_sent_35 : decode cX9_sent 35 = .ok (.imul, 1) := by decide +kernel
theorem dX9_sent_36 : decode cX9_sent 36 = .ok (.iload_n 2, 1) := by decide +kernel
theorem dX9_sent_37 : decode cX9_sent 37 = .ok (.iadd, 1) := by decide +kernel
theorem dX9_sent_38 : decode cX9_sent 38 = .ok (.iaload, 1) := by decide +kernel
theorem dX9_sent_39 : decode cX9_sent 39 = .ok (.goto 4, 3) := by decide +kernel
theorem dX9_sent_42 : decode cX9_sent 42 = .ok (.iconst (-1), 1) := by decide +kernel
theorem dX9_sent_43 : decode cX9_sent 43 = .ok (.ireturn, 1) := by decide +kernel
theorem dX9_follow_0 : decode cX9_follow 0 = .ok (.iconst 0, 1) := by decide +kernel
theorem dX9_follow_1 : decode cX9_follow 1 = .ok (.istore_n 1, 1) := by decide +kernel
theorem dX9_follow_2 : decode cX9_follow 2 = .ok (.iload_n 1, 1) := by decide +kernel
theorem dX9_follow_3 : decode cX9_follow 3 = .ok (.sipush 256, 3) := by decide +kernel
theorem dX9_follow_6 : decode cX9_follow 6 = .ok (.if_icmp .ge 47, 3) := by decide +kernel
theorem dX9_follow_9 : decode cX9_follow 9 = .ok (.iconst 0, 1) := by decide +kernel
theorem dX9_follow_10 : decode cX9_follow 10 = .ok (.istore_n 2, 1) := by decide +kernel
theorem dX9_follow_11 : decode cX9_follow 11 = .ok (.iload_n 2, 1) := by decide +kernel
theorem dX9_follow_12 : decode cX9_follow 12 = .ok (.sipush 256, 3) := by decide +kernel
theorem dX9_follow_15 : decode cX9_follow 15 = .ok (.if_icmp .ge 32, 3) := by decide +kernel
theorem dX9_follow_18 : decode cX9_follow 18 = .ok (.aload_n 0, 1) := by decide +kernel
theorem dX9_follow_19 : decode cX9_follow 19 = .ok (.getfield 37, 3) := by decide +kernel
theorem dX9_follow_22 : decode cX9_follow 22 = .ok (.sipush 256, 3) := by decide +kernel
theorem dX9_follow_25 : decode cX9_follow 25 = .ok (.iload_n 1, 1) := by decide +kernel
theorem dX9_follow_26 : decode cX9_follow 26 = .ok (.imul, 1) := by decide +kernel
theorem dX9_follow_27 : decode cX9_follow 27 = .ok (.iload_n 2, 1) := by decide +kernel
theorem dX9_follow_28 : decode cX9_follow 28 = .ok (.iadd, 1) := by decide +kernel
theorem dX9_follow_29 : decode cX9_follow 29 = .ok (.iload_n 1, 1) := by decide +kernel
theorem dX9_follow_30 : decode cX9_follow 30 = .ok (.iload_n 2, 1) := by decide +kernel
theorem dX9_follow_31 : decode cX9_follow 31 = .ok (.if_icmp .ne 7, 3) := by decide +kernel
theorem dX9_follow_34 : decode cX9_follow 34 = .ok (.iconst 1, 1) := by decide +kernel
theorem dX9_follow_35 : decode cX9_follow 35 = .ok (.goto 4, 3) := by decide +kernel
theorem dX9_follow_38 : decode cX9_follow 38 = .ok (.iconst 0, 1) := by decide +kernel
theorem dX9_follow_39 : decode cX9_follow 39 = .ok (.i2b, 1) := by decide +kernel
theorem dX9_follow_40 : decode cX9_follow 40 = .ok (.bastore, 1) := by decide +kernel
theorem dX9_follow_41 : decode cX9_follow 41 = .ok (.iinc 2 1, 3) := by decide +kernel
theorem dX9_follow_44 : decode cX9_follow 44 = .ok (.goto (-33), 3) := by decide +kernel
theorem dX9_follow_47 : decode cX9_follow 47 = .ok (.iinc 1 1, 3) := by decide +kernel
theorem dX9_follow_50 : decode cX9_follow 50 = .ok (.goto (-48), 3) := by decide +kernel
theorem dX9_follow_53 : decode cX9_follow 53 = .ok (.iconst 0, 1) := by decide +kernel
theorem dX9_follow_54 : decode cX9_follow 54 = .ok (.istore_n 1, 1) := by decide +kernel
theorem dX9_follow_55 : decode cX9_follow 55 = .ok (.iload_n 1, 1) := by decide +kernel
theorem dX9_follow_56 : decode cX9_follow 56 = .ok (.aload_n 0, 1) := by decide +kernel
theorem dX9_follow_57 : decode cX9_follow 57 = .ok (.getfield 73, 3) := by decide +kernel
theorem dX9_follow_60 : decode cX9_follow 60 = .ok (.if_icmp .ge 213, 3) := by decide +kernel
theorem dX9_follow_63 : decode cX9_follow 63 = .ok (.aload_n 0, 1) := by decide +kernel
theorem dX9_follow_64 : decode cX9_follow 64 = .ok (.getfield 30, 3) := by decide +kernel
theorem dX9_follow_67 : decode cX9_follow 67 = .ok (.bipush 6, 2) := by decide +kernel
theorem dX9_follow_69 : decode cX9_follow 69 = .ok (.iload_n 1, 1) := by decide +kernel
theorem dX9_follow_70 : decode cX9_follow 70 = .ok (.imul, 1) := by decide +kernel
theorem dX9_follow_71 : decode cX9_follow 71 = .ok (.iaload, 1) := by decide +kernel
theorem dX9_follow_72 : decode cX9_follow 72 = .ok (.istore_n 2, 1) := by decide +kernel
theorem dX9_follow_73 : decode cX9_follow 73 = .ok (.iconst 0, 1) := by decide +kernel
theorem dX9_follow_74 : decode cX9_follow 74 = .ok (.istore_n 3, 1) := by decide +kernel
theorem dX9_follow_75 : decode cX9_follow 75 = .ok (.iload_n 3, 1) := by decide +kernel
theorem dX9_follow_76 : decode cX9_follow 76 = .ok (.ldc 36, 2) := by decide +kernel
theorem dX9_follow_78 : decode cX9_follow 78 = .ok (.if_icmp .ge 21, 3) := by decide +kernel
theorem dX9_follow_81 : decode cX9_follow 81 = .ok (.aload_n 0, 1) := by decide +kernel
theorem dX9_follow_82 : decode cX9_follow 82 = .ok (.getfield 41, 3) := by decide +kernel
theorem dX9_follow_85 : decode cX9_follow 85 = .ok (.iload_n 3, 1) := by decide +kernel
theorem dX9_follow_86 : decode cX9_follow 86 = .ok (.aload_n 0, 1) := by decide +kernel
theorem dX9_follow_87 : decode cX9_follow 87 = .ok (.getfield 37, 3) := by decide +kernel
theorem dX9_follow_90 : decode cX9_follow 90 = .ok (.iload_n 3, 1) := by decide +kernel
theorem dX9_follow_91 : decode cX9_follow 91 = .ok (.baload, 1) := by decide +kernel
theorem dX9_follow_92 : decode cX9_follow 92 = .ok (.bastore, 1) := by decide +kernel
theorem dX9_follow_93 : decode cX9_follow 93 = .ok (.iinc 3 1, 3) := by decide +kernel
theorem dX9_follow_96 : decode cX9_follow 96 = .ok (.goto (-21), 3) := by decide +kernel
theorem dX9_follow_99 : decode cX9_follow 99 = .ok (.iload_n 1, 1) := by decide +kernel
theorem dX9_follow_100 : decode cX9_follow 100 = .ok (.aload_n 0, 1) := by decide +kernel
theorem dX9_follow_101 : decode cX9_follow 101 = .ok (.getfield 73, 3) := by decide +kernel
theorem dX9_follow_104 : decode cX9_follow 104 = .ok (.if_icmp .ge 166, 3) := by decide +kernel
theorem dX9_follow_107 : decode cX9_follow 107 = .ok (.aload_n 0, 1) := by decide +kernel
theorem dX9_follow_108 : decode cX9_follow 108 = .ok (.getfield 30, 3) := by decide +kernel
theorem dX9_follow_111 : decode cX9_follow 111 = .ok (.bipush 6, 2) := by decide +kernel
theorem dX9_follow_113 : decode cX9_follow 113 = .ok (.iload_n 1, 1) := by decide +kernel
theorem dX9_follow_114 : decode cX9_follow 114 = .ok (.imul, 1) := by decide +kernel
theorem dX9_follow_115 : decode cX9_follow 115 = .ok (.iaload, 1) := by decide +kernel
theorem dX9_follow_116 : decode cX9_follow 116 = .ok (.iload_n 2, 1) := by decide +kernel
theorem dX9_follow_117 : decode cX9_follow 117 = .ok (.if_icmp .ne 153, 3) := by decide +kernel
theorem dX9_follow_120 : decode cX9_follow 120 = .ok (.sipush 256, 3) := by decide +kernel
theorem dX9_follow_123 : decode cX9_follow 123 = .ok (.bipush 16, 2) := by decide +kernel
theorem dX9_follow_125 : decode cX9_follow 125 = .ok (.aload_n 0, 1) := by decide +kernel
theorem dX9_follow_126 : decode cX9_follow 126 = .ok (.getfield 30, 3) := by decide +kernel
theorem dX9_follow_129 : decode cX9_follow 129 = .ok (.bipush 6, 2) := by decide +kernel
theorem dX9_follow_131 : decode cX9_follow 131 = .ok (.iload_n 1, 1) := by decide +kernel
theorem dX9_follow_132 : decode cX9_follow 132 = .ok (.imul, 1) := by decide +kernel
theorem dX9_follow_133 : decode cX9_follow 133 = .ok (.iconst 1, 1) := by decide +kernel
theorem dX9_follow_134 : decode cX9_follow 134 = .ok (.iadd, 1) := by decide +kernel
theorem dX9_follow_135 : decode cX9_follow 135 = .ok (.iaload, 1) := by decide +kernel
theorem dX9_follow_136 : decode cX9_follow 136 = .ok (.imul, 1) := by decide +kernel
theorem dX9_follow_137 : decode cX9_follow 137 = .ok (.aload_n 0, 1) := by decide +kernel
theorem dX9_follow_138 : decode cX9_follow 138 = .ok (.getfield 30, 3) := by decide +kernel
theorem dX9_follow_141 : decode cX9_follow 141 = .ok (.bipush 6, 2) := by decide +kernel
theorem dX9_follow_143 : decode cX9_follow 143 = .ok (.iload_n 1, 1) := by decide +kernel
theorem dX9_follow_144 : decode cX9_follow 144 = .ok (.imul, 1) := by decide +kernel
theorem dX9_follow_145 : decode cX9_follow 145 = .ok (.iconst 3, 1) := by decide +kernel
theorem dX9_follow_146 : decode cX9_follow 146 = .ok (.iadd, 1) := by decide +kernel
theorem dX9_follow_147 : decode cX9_follow 147 = .ok (.iaload, 1) := by decide +kernel
theorem dX9_follow_148 : decode cX9_follow 148 = .ok (.iadd, 1) := by decide +kernel
theorem dX9_follow_149 : decode cX9_follow 149 = .ok (.imul, 1) := by decide +kernel
theorem dX9_follow_150 : decode cX9_follow 150 = .ok (.istore_n 3, 1) := by decide +kernel
theorem dX9_follow_151 : decode cX9_follow 151 = .ok (.sipush 256, 3) := by decide +kernel
theorem dX9_follow_154 : decode cX9_follow 154 = .ok (.bipush 16, 2) := by decide +kernel
theorem dX9_follow_156 : decode cX9_follow 156 = .ok (.aload_n 0, 1) := by decide +kernel
theorem dX9_follow_157 : decode cX9_follow 157 = .ok (.getfield 30, 3) := by decide +kernel
theorem dX9_follow_160 : decode cX9_follow 160 = .ok (.bipush 6, 2) := by decide +kernel
theorem dX9_follow_162 : decode cX9_follow 162 = .ok (.iload_n 1, 1) := by decide +kernel
theorem dX9_follow_163 : decode cX9_follow 163 = .ok (.imul, 1) := by decide +kernel
theorem dX9_follow_164 : decode cX9_follow 164 = .ok (.iconst 2, 1) := by decide +kernel
theorem dX9_follow_165 : decode cX9_follow 165 = .ok (.iadd, 1) := by decide +kernel
theorem dX9_follow_166 : decode cX9_follow 166 = .ok (.iaload, 1) := by decide +kernel
theorem dX9_follow_167 : decode cX9_follow 167 = .ok (.imul, 1) := by decide +kernel
theorem dX9_follow_168 : decode cX9_follow 168 = .ok (.aload_n 0, 1) := by decide +kernel
theorem dX9_follow_169 : decode cX9_follow 169 = .ok (.getfield 30, 3) := by decide +kernel
theorem dX9_follow_172 : decode cX9_follow 172 = .ok (.bipush 6, 2) := by decide +kernel
theorem dX9_follow_174 : decode cX9_follow 174 = .ok (.iload_n 1, 1) := by decide +kernel
theorem dX9_follow_175 : decode cX9_follow 175 = .ok (.imul, 1) := by decide +kernel
theorem dX9_follow_176 : decode cX9_follow 176 = .ok (.iconst 4, 1) := by decide +kernel
theorem dX9_follow_177 : decode cX9_follow 177 = .ok (.iadd, 1) := by decide +kernel
theorem dX9_follow_178 : decode cX9_follow 178 = .ok (.iaload, 1) := by decide +kernel
theorem dX9_follow_179 : decode cX9_follow 179 = .ok (.iadd, 1) := by decide +kernel
theorem dX9_follow_180 : decode cX9_follow 180 = .ok (.imul, 1) := by decide +kernel
theorem dX9_follow_181 : decode cX9_follow 181 = .ok (.istore 4, 2) := by decide +kernel
theorem dX9_follow_183 : decode cX9_follow 183 = .ok (.iconst 0, 1) := by decide +kernel
theorem dX9_follow_184 : decode cX9_follow 184 = .ok (.istore 5, 2) := by decide +kernel
theorem dX9_follow_186 : decode cX9_follow 186 = .ok (.iload 5, 2) := by decide +kernel
theorem dX9_follow_188 : decode cX9_follow 188 = .ok (.sipush 256, 3) := by decide +kernel
theorem dX9_follow_191 : decode cX9_follow 191 = .ok (.if_icmp .ge 73, 3) := by decide +kernel
theorem dX9_follow_194 : decode cX9_follow 194 = .ok (.aload_n 0, 1) := by decide +kernel
theorem dX9_follow_195 : decode cX9_follow 195 = .ok (.getfield 41, 3) := by decide +kernel
theorem dX9_follow_198 : decode cX9_follow 198 = .ok (.iload_n 3, 1) := by decide +kernel
theorem dX9_follow_199 : decode cX9_follow 199 = .ok (.iload 5, 2) := by decide +kernel
theorem dX9_follow_201 : decode cX9_follow 201 = .ok (.iadd, 1) := by decide +kernel
theorem dX9_follow_202 : decode cX9_follow 202 = .ok (.baload, 1) := by decide +kernel
theorem dX9_follow_203 : decode cX9_follow 203 = .ok (.aload_n 0, 1) := by decide +kernel
theorem dX9_follow_204 : decode cX9_follow 204 = .ok (.getfield 30, 3) := by decide +kernel
theorem dX9_follow_207 : decode cX9_follow 207 = .ok (.bipush 6, 2) := by decide +kernel
theorem dX9_follow_209 : decode cX9_follow 209 = .ok (.iload_n 1, 1) := by decide +kernel
theorem dX9_follow_210 : decode cX9_follow 210 = .ok (.imul, 1) := by decide +kernel
theorem dX9_follow_211 : decode cX9_follow 211 = .ok (.iconst 5, 1) := by decide +kernel
theorem dX9_follow_212 : decode cX9_follow 212 = .ok (.iadd, 1) := by decide +kernel
theorem dX9_follow_213 : decode cX9_follow 213 = .ok (.iaload, 1) := by decide +kernel
theorem dX9_follow_214 : decode cX9_follow 214 = .ok (.iconst 1, 1) := by decide +kernel
theorem dX9_follow_215 : decode cX9_follow 215 = .ok (.if_icmp .ne 16, 3) := by decide +kernel
theorem dX9_follow_218 : decode cX9_follow 218 = .ok (.aload_n 0, 1) := by decide +kernel
theorem dX9_follow_219 : decode cX9_follow 219 = .ok (.getfield 41, 3) := by decide +kernel
theorem dX9_follow_222 : decode cX9_follow 222 = .ok (.iload 4, 2) := by decide +kernel
theorem dX9_follow_224 : decode cX9_follow 224 = .ok (.iload 5, 2) := by decide +kernel
theorem dX9_follow_226 : decode cX9_follow 226 = .ok (.iadd, 1) := by decide +kernel
theorem dX9_follow_227 : decode cX9_follow 227 = .ok (.baload, 1) := by decide +kernel
theorem dX9_follow_228 : decode cX9_follow 228 = .ok (.goto 4, 3) := by decide +kernel
theorem dX9_follow_231 : decode cX9_follow 231 = .ok (.iconst 0, 1) := by decide +kernel
theorem dX9_follow_232 : decode cX9_follow 232 = .ok (.iadd, 1) := by decide +kernel
theorem dX9_follow_233 : decode cX9_follow 233 = .ok (.istore 6, 2) := by decide +kernel
theorem dX9_follow_235 : decode cX9_follow 235 = .ok (.aload_n 0, 1) := by decide +kernel
theorem dX9_follow_236 : decode cX9_follow 236 = .ok (.getfield 37, 3) := by decide +kernel
theorem dX9_follow_239 : decode cX9_follow 239 = .ok (.iload 4, 2) := by decide +kernel
theorem dX9_follow_241 : decode cX9_follow 241 = .ok (.iload 5, 2) := by decide +kernel
theorem dX9_follow_243 : decode cX9_follow 243 = .ok (.iadd, 1) := by decide +kernel
theorem dX9_follow_244 : decode cX9_follow 244 = .ok (.iload 6, 2) := by decide +kernel
theorem dX9_follow_246 : decode cX9_follow 246 = .ok (.iconst 2, 1) := by decide +kernel
theorem dX9_follow_247 : decode cX9_follow 247 = .ok (.if_icmp .le 7, 3) := by decide +kernel
theorem dX9_follow_250 : decode cX9_follow 250 = .ok (.iconst 2, 1) := by decide +kernel
theorem dX9_follow_251 : decode cX9_follow 251 = .ok (.goto 5, 3) := by decide +kernel
theorem dX9_follow_254 : decode cX9_follow 254 = .ok (.iload 6, 2) := by decide +kernel
theorem dX9_follow_256 : decode cX9_follow 256 = .ok (.i2b, 1) := by decide +kernel
theorem dX9_follow_257 : decode cX9_follow 257 = .ok (.bastore, 1) := by decide +kernel
theorem dX9_follow_258 : decode cX9_follow 258 = .ok (.iinc 5 1, 3) := by decide +kernel
theorem dX9_follow_261 : decode cX9_follow 261 = .ok (.goto (-75), 3) := by decide +kernel
theorem dX9_follow_264 : decode cX9_follow 264 = .ok (.iinc 1 1, 3) := by decide +kernel
theorem dX9_follow_267 : decode cX9_follow 267 = .ok (.goto (-168), 3) := by decide +kernel
theorem dX9_follow_270 : decode cX9_follow 270 = .ok (.goto (-215), 3) := by decide +kernel
theorem dX9_follow_273 : decode cX9_follow 273 = .ok (.return_, 1) := by decide +kernel
set_option maxRecDepth 20000 in
theorem ggX9_due_X9_isLive : GoodIn wsX9_due wsX9_isLive := goodIn_r _ [5, 6, 7, 8, 9, 4, 10, 11, 12, 13, 14, 23, 24, 25, 26, 27, 28, 29, 30, 31, 32, 33, 34, 35, 36, 37, 38, 39, 40, 41] (by decide +kernel) (by decide +kernel)
set_option maxRecDepth 20000 in
theorem gX9_due_X9_isLive : GoodIn wsX9_due (wsV RX9 94 RX9 yX9_isLive wsX9_isLive) := goodIn_app (goodIn_of _ (by decide +kernel)) ggX9_due_X9_isLive
set_option maxRecDepth 20000 in
theorem ggX9_due_X9_hostOf : GoodIn wsX9_due wsX9_hostOf := goodIn_r _ [18, 6, 23, 24, 25, 26, 27, 28, 29, 30, 31, 32, 33, 34, 35, 36, 37, 38, 39, 40, 41] (by decide +kernel) (by decide +kernel)
set_option maxRecDepth 20000 in
theorem gX9_due_X9_hostOf : GoodIn wsX9_due (wsV RX9 108 RX9 yX9_hostOf wsX9_hostOf) := goodIn_app (goodIn_of _ (by decide +kernel)) ggX9_due_X9_hostOf
set_option maxRecDepth 20000 in
theorem ggX9_due_X9_rankOf : GoodIn wsX9_due wsX9_rankOf := goodIn_r _ [22, 6, 23, 24, 25, 26, 27, 28, 29, 30, 31, 32, 33, 34, 35, 36, 37, 38, 39, 40, 41] (by decide +kernel) (by decide +kernel)
set_option maxRecDepth 20000 in
theorem gX9_due_X9_rankOf : GoodIn wsX9_due (wsV RX9 135 RX9 yX9_rankOf wsX9_rankOf) := goodIn_app (goodIn_of _ (by decide +kernel)) ggX9_due_X9_rankOf
theorem dX9_due_0 : decode cX9_due 0 = .ok (.iload 4, 2) := by decide +kernel
theorem dX9_due_2 : decode cX9_due 2 = .ok (.iload 7, 2) := by decide +kernel
theorem dX9_due_4 : decode cX9_due 4 = .ok (.if_icmp .lt 22, 3) := by decide +kernel
theorem dX9_due_7 : decode cX9_due 7 = .ok (.iload_n 3, 1) := by decide +kernel
theorem dX9_due_8 : decode cX9_due 8 = .ok (.iload 5, 2) := by decide +kernel
theorem dX9_due_10 : decode cX9_due 10 = .ok (.if_icmp .ne 14, 3) := by decide +kernel
theorem dX9_due_13 : decode cX9_due 13 = .ok (.iload 4, 2) := by decide +kernel
theorem dX9_due_15 : decode cX9_due 15 = .ok (.iload 6, 2) := by decide +kernel
theorem dX9_due_17 : decode cX9_due 17 = .ok (.if_icmp .ne 7, 3) := by decide +kernel
theorem dX9_due_20 : decode cX9_due 20 = .ok (.iconst 1, 1) := by decide +kernel
theorem dX9_due_21 : decode cX9_due 21 = .ok (.goto 4, 3) := by decide +kernel
theorem dX9_due_24 : decode cX9_due 24 = .ok (.iconst 0, 1) := by decide +kernel
theorem dX9_due_25 : decode cX9_due 25 = .ok (.ireturn, 1) := by decide +kernel
theorem dX9_due_26 : decode cX9_due 26 = .ok (.iload_n 1, 1) := by decide +kernel
theorem dX9_due_27 : decode cX9_due 27 = .ok (.tableswitch 125 0 3 #[29, 48, 79, 101], 29) := by decide +kernel
theorem dX9_due_56 : decode cX9_due 56 = .ok (.iload 5, 2) := by decide +kernel
theorem dX9_due_58 : decode cX9_due 58 = .ok (.iload_n 2, 1) := by decide +kernel
theorem dX9_due_59 : decode cX9_due 59 = .ok (.if_icmp .ne 14, 3) := by decide +kernel
theorem dX9_due_62 : decode cX9_due 62 = .ok (.iload 6, 2) := by decide +kernel
theorem dX9_due_64 : decode cX9_due 64 = .ok (.iload 4, 2) := by decide +kernel
theorem dX9_due_66 : decode cX9_due 66 = .ok (.if_icmp .ne 7, 3) := by decide +kernel
theorem dX9_due_69 : decode cX9_due 69 = .ok (.iconst 1, 1) := by decide +kernel
theorem dX9_due_70 : decode cX9_due 70 = .ok (.goto 4, 3) := by decide +kernel
theorem dX9_due_73 : decode cX9_due 73 = .ok (.iconst 0, 1) := by decide +kernel
theorem dX9_due_74 : decode cX9_due 74 = .ok (.ireturn, 1) := by decide +kernel
theorem dX9_due_75 : decode cX9_due 75 = .ok (.iload_n 3, 1) := by decide +kernel
theorem dX9_due_76 : decode cX9_due 76 = .ok (.iload_n 2, 1) := by decide +kernel
theorem dX9_due_77 : decode cX9_due 77 = .ok (.if_icmp .eq 7, 3) := by decide +kernel
theorem dX9_due_80 : decode cX9_due 80 = .ok (.iconst (-1), 1) := by decide +kernel
theorem dX9_due_81 : decode cX9_due 81 = .ok (.goto 24, 3) := by decide +kernel
theorem dX9_due_84 : decode cX9_due 84 = .ok (.iload 6, 2) := by decide +kernel
theorem dX9_due_86 : decode cX9_due 86 = .ok (.iload 4, 2) := by decide +kernel
theorem dX9_due_88 : decode cX9_due 88 = .ok (.if_icmp .ne 16, 3) := by decide +kernel
theorem dX9_due_91 : decode cX9_due 91 = .ok (.aload_n 0, 1) := by decide +kernel
theorem dX9_due_92 : decode cX9_due 92 = .ok (.iload 5, 2) := by decide +kernel
theorem dX9_due_94 : decode cX9_due 94 = .ok (.invokevirtual 94, 3) := by decide +kernel
theorem dX9_due_97 : decode cX9_due 97 = .ok (.ifCond .eq 7, 3) := by decide +kernel
theorem dX9_due_100 : decode cX9_due 100 = .ok (.iconst 1, 1) := by decide +kernel
theorem dX9_due_101 : decode cX9_due 101 = .ok (.goto 4, 3) := by decide +kernel
theorem dX9_due_104 : decode cX9_due 104 = .ok (.iconst 0, 1) := by decide +kernel
theorem dX9_due_105 : decode cX9_due 105 = .ok (.ireturn, 1) := by decide +kernel
theorem dX9_due_106 : decode cX9_due 106 = .ok (.iload 6, 2) := by decide +kernel
theorem dX9_due_108 : decode cX9_due 108 = .ok (.iload 4, 2) := by decide +kernel
theorem dX9_due_110 : decode cX9_due 110 = .ok (.if_icmp .ne 16, 3) := by decide +kernel
theorem dX9_due_113 : decode cX9_due 113 = .ok (.aload_n 0, 1) := by decide +kernel
theorem dX9_due_114 : decode cX9_due 114 = .ok (.iload 5, 2) := by decide +kernel
theorem dX9_due_116 : decode cX9_due 116 = .ok (.invokevirtual 94, 3) := by decide +kernel
theorem dX9_due_119 : decode cX9_due 119 = .ok (.ifCond .eq 7, 3) := by decide +kernel
theorem dX9_due_122 : decode cX9_due 122 = .ok (.iconst 1, 1) := by decide +kernel
theorem dX9_due_123 : decode cX9_due 123 = .ok (.goto 4, 3) := by decide +kernel
theorem dX9_due_126 : decode cX9_due 126 = .ok (.iconst 0, 1) := by decide +kernel
theorem dX9_due_127 : decode cX9_due 127 = .ok (.ireturn, 1) := by decide +kernel
theorem dX9_due_128 : decode cX9_due 128 = .ok (.iload 5, 2) := by decide +kernel
theorem dX9_due_130 : decode cX9_due 130 = .ok (.aload_n 0, 1) := by decide +kernel
theorem dX9_due_131 : decode cX9_due 131 = .ok (.iload 4, 2) := by decide +kernel
theorem dX9_due_133 : decode cX9_due 133 = .ok (.invokevirtual 108, 3) := by decide +kernel
theorem dX9_due_136 : decode cX9_due 136 = .ok (.if_icmp .ne 14, 3) := by decide +kernel
theorem dX9_due_139 : decode cX9_due 139 = .ok (.iload 6, 2) := by decide +kernel
theorem dX9_due_141 : decode cX9_due 141 = .ok (.iload 4, 2) := by decide +kernel
theorem dX9_due_143 : decode cX9_due 143 = .ok (.if_icmp .ne 7, 3) := by decide +kernel
theorem dX9_due_146 : decode cX9_due 146 = .ok (.iconst 1, 1) := by decide +kernel
theorem dX9_due_147 : decode cX9_due 147 = .ok (.goto 4, 3) := by decide +kernel
theorem dX9_due_150 : decode cX9_due 150 = .ok (.iconst 0, 1) := by decide +kernel
theorem dX9_due_151 : decode cX9_due 151 = .ok (.ireturn, 1) := by decide +kernel
theorem dX9_due_152 : decode cX9_due 152 = .ok (.iload 5, 2) := by decide +kernel
theorem dX9_due_154 : decode cX9_due 154 = .ok (.aload_n 0, 1) := by decide +kernel
theorem dX9_due_155 : decode cX9_due 155 = .ok (.iload 4, 2) := by decide +kernel
theorem dX9_due_157 : decode cX9_due 157 = .ok (.invokevirtual 108, 3) := by decide +kernel
theorem dX9_due_160 : decode cX9_due 160 = .ok (.if_icmp .ne 17, 3) := by decide +kernel
theorem dX9_due_163 : decode cX9_due 163 = .ok (.iload 6, 2) := by decide +kernel
theorem dX9_due_165 : decode cX9_due 165 = .ok (.aload_n 0, 1) := by decide +kernel
theorem dX9_due_166 : decode cX9_due 166 = .ok (.iload_n 3, 1) := by decide +kernel
theorem dX9_due_167 : decode cX9_due 167 = .ok (.invokevirtual 135, 3) := by decide +kernel
theorem dX9_due_170 : decode cX9_due 170 = .ok (.if_icmp .ne 7, 3) := by decide +kernel
theorem dX9_due_173 : decode cX9_due 173 = .ok (.iconst 1, 1) := by decide +kernel
theorem dX9_due_174 : decode cX9_due 174 = .ok (.goto 4, 3) := by decide +kernel
theorem dX9_due_177 : decode cX9_due 177 = .ok (.iconst 0, 1) := by decide +kernel
theorem dX9_due_178 : decode cX9_due 178 = .ok (.ireturn, 1) := by decide +kernel
set_option maxRecDepth 20000 in
theorem ggX9_right_X9_isAsk : GoodIn wsX9_right wsX9_isAsk := goodIn_r _ [9, 10, 11, 8, 12, 13, 14, 15, 16, 3, 17, 18, 19, 20, 2, 45, 46, 47, 48, 49, 50, 51, 52, 53, 54, 55, 56, 57, 58, 59, 60, 61, 62, 63] (by decide +kernel) (by decide +kernel)
set_option maxRecDepth 20000 in
theorem gX9_right_X9_isAsk : GoodIn wsX9_right (wsV RX9 129 RX9 yX9_isAsk wsX9_isAsk) := goodIn_app (goodIn_of _ (by decide +kernel)) ggX9_right_X9_isAsk
set_option maxRecDepth 20000 in
theorem ggX9_right_X9_follow : GoodIn wsX9_right wsX9_follow := goodIn_r _ [24, 4, 25, 26, 27, 28, 45, 46, 47, 48, 49, 50, 51, 52, 53, 54, 55, 56, 57, 58, 59, 60, 61, 62, 63] (by decide +kernel) (by decide +kernel)
set_option maxRecDepth 20000 in
theorem gX9_right_X9_follow : GoodIn wsX9_right (wsV RX9 162 RX9 yX9_follow wsX9_follow) := goodIn_app (goodIn_of _ (by decide +kernel)) ggX9_right_X9_follow
set_option maxRecDepth 20000 in
theorem ggX9_right_X9_liveMany : GoodIn wsX9_right wsX9_liveMany := goodIn_r _ [32, 2, 3, 45, 46, 47, 48, 49, 50, 51, 52, 53, 54, 55, 56, 57, 58, 59, 60, 61, 62, 63] (by decide +kernel) (by decide +kernel)
set_option maxRecDepth 20000 in
theorem gX9_right_X9_liveMany : GoodIn wsX9_right (wsV RX9 97 RX9 yX9_liveMany wsX9_liveMany) := goodIn_app (goodIn_of _ (by decide +kernel)) ggX9_right_X9_liveMany
set_option maxRecDepth 20000 in
theorem ggX9_right_X9_due : GoodIn wsX9_right wsX9_due := goodIn_r _ [36, 13, 14, 15, 8, 16, 3, 17, 18, 19, 20, 2, 10, 11, 12, 37, 38, 39, 40, 41, 42, 43, 44, 45, 46, 47, 48, 49, 50, 51, 52, 53, 54, 55, 56, 57, 58, 59, 60, 61, 62, 63] (by decide +kernel) (by decide +kernel)
set_option maxRecDepth 20000 in
theorem gX9_right_X9_due : GoodIn wsX9_right (wsV RX9 165 RX9 yX9_due wsX9_due) := goodIn_app (goodIn_of _ (by decide +kernel)) ggX9_right_X9_due
theorem dX9_right_0 : decode cX9_right 0 = .ok (.aload_n 0, 1) := by decide +kernel
theorem dX9_right_1 : decode cX9_right 1 = .ok (.iconst 0, 1) := by decide +kernel
theorem dX9_right_2 : decode cX9_right 2 = .ok (.putfield 62, 3) := by decide +kernel
theorem dX9_right_5 : decode cX9_right 5 = .ok (.aload_n 0, 1) := by decide +kernel
theorem dX9_right_6 : decode cX9_right 6 = .ok (.iload_n 1, 1) := by decide +kernel
theorem dX9_right_7 : decode cX9_right 7 = .ok (.iload_n 2, 1) := by decide +kernel
theorem dX9_right_8 : decode cX9_right 8 = .ok (.invokevirtual 129, 3) := by decide +kernel
theorem dX9_right_11 : decode cX9_right 11 = .ok (.ifCond .ne 5, 3) := by decide +kernel
theorem dX9_right_14 : decode cX9_right 14 = .ok (.iconst 2, 1) := by decide +kernel
theorem dX9_right_15 : decode cX9_right 15 = .ok (.ireturn, 1) := by decide +kernel
theorem dX9_right_16 : decode cX9_right 16 = .ok (.aload_n 0, 1) := by decide +kernel
theorem dX9_right_17 : decode cX9_right 17 = .ok (.invokevirtual 162, 3) := by decide +kernel
theorem dX9_right_20 : decode cX9_right 20 = .ok (.aload_n 0, 1) := by decide +kernel
theorem dX9_right_21 : decode cX9_right 21 = .ok (.invokevirtual 97, 3) := by decide +kernel
theorem dX9_right_24 : decode cX9_right 24 = .ok (.istore_n 3, 1) := by decide +kernel
theorem dX9_right_25 : decode cX9_right 25 = .ok (.iconst 0, 1) := by decide +kernel
theorem dX9_right_26 : decode cX9_right 26 = .ok (.istore 4, 2) := by decide +kernel
theorem dX9_right_28 : decode cX9_right 28 = .ok (.iload 4, 2) := by decide +kernel
theorem dX9_right_30 : decode cX9_right 30 = .ok (.aload_n 0, 1) := by decide +kernel
theorem dX9_right_31 : decode cX9_right 31 = .ok (.getfield 9, 3) := by decide +kernel
theorem dX9_right_34 : decode cX9_right 34 = .ok (.if_icmp .ge 120, 3) := by decide +kernel
theorem dX9_right_37 : decode cX9_right 37 = .ok (.aload_n 0, 1) := by decide +kernel
theorem dX9_right_38 : decode cX9_right 38 = .ok (.getfield 13, 3) := by decide +kernel
theorem dX9_right_41 : decode cX9_right 41 = .ok (.iload 4, 2) := by decide +kernel
theorem dX9_right_43 : decode cX9_right 43 = .ok (.baload, 1) := by decide +kernel
theorem dX9_right_44 : decode cX9_right 44 = .ok (.ifCond .eq 6, 3) := by decide +kernel
theorem dX9_right_47 : decode cX9_right 47 = .ok (.goto 101, 3) := by decide +kernel
theorem dX9_right_50 : decode cX9_right 50 = .ok (.iconst 0, 1) := by decide +kernel
theorem dX9_right_51 : decode cX9_right 51 = .ok (.istore 5, 2) := by decide +kernel
theorem dX9_right_53 : decode cX9_right 53 = .ok (.iload 5, 2) := by decide +kernel
theorem dX9_right_55 : decode cX9_right 55 = .ok (.bipush 16, 2) := by decide +kernel
theorem dX9_right_57 : decode cX9_right 57 = .ok (.if_icmp .ge 91, 3) := by decide +kernel
theorem dX9_right_60 : decode cX9_right 60 = .ok (.iconst 0, 1) := by decide +kernel
theorem dX9_right_61 : decode cX9_right 61 = .ok (.istore 6, 2) := by decide +kernel
theorem dX9_right_63 : decode cX9_right 63 = .ok (.iload 6, 2) := by decide +kernel
theorem dX9_right_65 : decode cX9_right 65 = .ok (.sipush 256, 3) := by decide +kernel
theorem dX9_right_68 : decode cX9_right 68 = .ok (.if_icmp .ge 74, 3) := by decide +kernel
theorem dX9_right_71 : decode cX9_right 71 = .ok (.aload_n 0, 1) := by decide +kernel
theorem dX9_right_72 : decode cX9_right 72 = .ok (.iload_n 1, 1) := by decide +kernel
theorem dX9_right_73 : decode cX9_right 73 = .ok (.iload_n 2, 1) := by decide +kernel
theorem dX9_right_74 : decode cX9_right 74 = .ok (.iload 4, 2) := by decide +kernel
theorem dX9_right_76 : decode cX9_right 76 = .ok (.iload 5, 2) := by decide +kernel
theorem dX9_right_78 : decode cX9_right 78 = .ok (.iload 6, 2) := by decide +kernel
theorem dX9_right_80 : decode cX9_right 80 = .ok (.bipush 16, 2) := by decide +kernel
theorem dX9_right_82 : decode cX9_right 82 = .ok (.idiv, 1) := by decide +kernel
theorem dX9_right_83 : decode cX9_right 83 = .ok (.iload 6, 2) := by decide +kernel
theorem dX9_right_85 : decode cX9_right 85 = .ok (.bipush 16, 2) := by decide +kernel
theorem dX9_right_87 : decode cX9_right 87 = .ok (.irem, 1) := by decide +kernel
theorem dX9_right_88 : decode cX9_right 88 = .ok (.iload_n 3, 1) := by decide +kernel
theorem dX9_right_89 : decode cX9_right 89 = .ok (.invokevirtual 165, 3) := by decide +kernel
theorem dX9_right_92 : decode cX9_right 92 = .ok (.istore 7, 2) := by decide +kernel
theorem dX9_right_94 : decode cX9_right 94 = .ok (.iload 7, 2) := by decide +kernel
theorem dX9_right_96 : decode cX9_right 96 = .ok (.iconst (-1), 1) := by decide +kernel
theorem dX9_right_97 : decode cX9_right 97 = .ok (.if_icmp .eq 39, 3) := by decide +kernel
theorem dX9_right_100 : decode cX9_right 100 = .ok (.aload_n 0, 1) := by decide +kernel
theorem dX9_right_101 : decode cX9_right 101 = .ok (.getfield 37, 3) := by decide +kernel
theorem dX9_right_104 : decode cX9_right 104 = .ok (.sipush 256, 3) := by decide +kernel
theorem dX9_right_107 : decode cX9_right 107 = .ok (.bipush 16, 2) := by decide +kernel
theorem dX9_right_109 : decode cX9_right 109 = .ok (.iload 4, 2) := by decide +kernel
theorem dX9_right_111 : decode cX9_right 111 = .ok (.imul, 1) := by decide +kernel
theorem dX9_right_112 : decode cX9_right 112 = .ok (.iload 5, 2) := by decide +kernel
theorem dX9_right_114 : decode cX9_right 114 = .ok (.iadd, 1) := by decide +kernel
theorem dX9_right_115 : decode cX9_right 115 = .ok (.imul, 1) := by decide +kernel
theorem dX9_right_116 : decode cX9_right 116 = .ok (.iload 6, 2) := by decide +kernel
theorem dX9_right_118 : decode cX9_right 118 = .ok (.iadd, 1) := by decide +kernel
theorem dX9_right_119 : decode cX9_right 119 = .ok (.baload, 1) := by decide +kernel
theorem dX9_right_120 : decode cX9_right 120 = .ok (.iload 7, 2) := by decide +kernel
theorem dX9_right_122 : decode cX9_right 122 = .ok (.if_icmp .eq 14, 3) := by decide +kernel
theorem dX9_right_125 : decode cX9_right 125 = .ok (.bipush (-100), 2) := by decide +kernel
theorem dX9_right_127 : decode cX9_right 127 = .ok (.iload 4, 2) := by decide +kernel
theorem dX9_right_129 : decode cX9_right 129 = .ok (.imul, 1) := by decide +kernel
theorem dX9_right_130 : decode cX9_right 130 = .ok (.iload 5, 2) := by decide +kernel
theorem dX9_right_132 : decode cX9_right 132 = .ok (.isub, 1) := by decide +kernel
theorem dX9_right_133 : decode cX9_right 133 = .ok (.iconst 1, 1) := by decide +kernel
theorem dX9_right_134 : decode cX9_right 134 = .ok (.isub, 1) := by decide +kernel
theorem dX9_right_135 : decode cX9_right 135 = .ok (.ireturn, 1) := by decide +kernel
theorem dX9_right_136 : decode cX9_right 136 = .ok (.iinc 6 1, 3) := by decide +kernel
theorem dX9_right_139 : decode cX9_right 139 = .ok (.goto (-76), 3) := by decide +kernel
theorem dX9_right_142 : decode cX9_right 142 = .ok (.iinc 5 1, 3) := by decide +kernel
theorem dX9_right_145 : decode cX9_right 145 = .ok (.goto (-92), 3) := by decide +kernel
theorem dX9_right_148 : decode cX9_right 148 = .ok (.iinc 4 1, 3) := by decide +kernel
theorem dX9_right_151 : decode cX9_right 151 = .ok (.goto (-123), 3) := by decide +kernel
theorem dX9_right_154 : decode cX9_right 154 = .ok (.iconst 1, 1) := by decide +kernel
theorem dX9_right_155 : decode cX9_right 155 = .ok (.ireturn, 1) := by decide +kernel
set_option maxRecDepth 20000 in
theorem ggX9_run_X9_stepsOf : GoodIn wsX9_run wsX9_stepsOf := goodIn_r _ [9] (by decide +kernel) (by decide +kernel)
set_option maxRecDepth 20000 in
theorem gX9_run_X9_stepsOf : GoodIn wsX9_run (va_wsS RX9 101 yX9_stepsOf wsX9_stepsOf) := goodIn_app (goodIn_of _ (by decide +kernel)) ggX9_run_X9_stepsOf
theorem dX9_run_0 : decode cX9_run 0 = .ok (.aload_n 0, 1) := by decide +kernel
theorem dX9_run_1 : decode cX9_run 1 = .ok (.iconst 0, 1) := by decide +kernel
theorem dX9_run_2 : decode cX9_run 2 = .ok (.putfield 62, 3) := by decide +kernel
theorem dX9_run_5 : decode cX9_run 5 = .ok (.iconst 0, 1) := by decide +kernel
theorem dX9_run_6 : decode cX9_run 6 = .ok (.istore_n 1, 1) := by decide +kernel
theorem dX9_run_7 : decode cX9_run 7 = .ok (.iload_n 1, 1) := by decide +kernel
theorem dX9_run_8 : decode cX9_run 8 = .ok (.aload_n 0, 1) := by decide +kernel
theorem dX9_run_9 : decode cX9_run 9 = .ok (.getfield 73, 3) := by decide +kernel
theorem dX9_run_12 : decode cX9_run 12 = .ok (.if_icmp .ge 165, 3) := by decide +kernel
theorem dX9_run_15 : decode cX9_run 15 = .ok (.aload_n 0, 1) := by decide +kernel
theorem dX9_run_16 : decode cX9_run 16 = .ok (.getfield 30, 3) := by decide +kernel
theorem dX9_run_19 : decode cX9_run 19 = .ok (.bipush 6, 2) := by decide +kernel
theorem dX9_run_21 : decode cX9_run 21 = .ok (.iload_n 1, 1) := by decide +kernel
theorem dX9_run_22 : decode cX9_run 22 = .ok (.imul, 1) := by decide +kernel
theorem dX9_run_23 : decode cX9_run 23 = .ok (.iaload, 1) := by decide +kernel
theorem dX9_run_24 : decode cX9_run 24 = .ok (.istore_n 2, 1) := by decide +kernel
theorem dX9_run_25 : decode cX9_run 25 = .ok (.iconst 0, 1) := by decide +kernel
theorem dX9_run_26 : decode cX9_run 26 = .ok (.istore_n 3, 1) := by decide +kernel
theorem dX9_run_27 : decode cX9_run 27 = .ok (.iload_n 3, 1) := by decide +kernel
theorem dX9_run_28 : decode cX9_run 28 = .ok (.sipush 256, 3) := by decide +kernel
theorem dX9_run_31 : decode cX9_run 31 = .ok (.if_icmp .ge 21, 3) := by decide +kernel
theorem dX9_run_34 : decode cX9_run 34 = .ok (.aload_n 0, 1) := by decide +kernel
theorem dX9_run_35 : decode cX9_run 35 = .ok (.getfield 44, 3) := by decide +kernel
theorem dX9_run_38 : decode cX9_run 38 = .ok (.iload_n 3, 1) := by decide +kernel
theorem dX9_run_39 : decode cX9_run 39 = .ok (.aload_n 0, 1) := by decide +kernel
theorem dX9_run_40 : decode cX9_run 40 = .ok (.getfield 27, 3) := by decide +kernel
theorem dX9_run_43 : decode cX9_run 43 = .ok (.iload_n 3, 1) := by decide +kernel
theorem dX9_run_44 : decode cX9_run 44 = .ok (.iaload, 1) := by decide +kernel
theorem dX9_run_45 : decode cX9_run 45 = .ok (.iastore, 1) := by decide +kernel
theorem dX9_run_46 : decode cX9_run 46 = .ok (.iinc 3 1, 3) := by decide +kernel
theorem dX9_run_49 : decode cX9_run 49 = .ok (.goto (-22), 3) := by decide +kernel
theorem dX9_run_52 : decode cX9_run 52 = .ok (.iload_n 1, 1) := by decide +kernel
theorem dX9_run_53 : decode cX9_run 53 = .ok (.aload_n 0, 1) := by decide +kernel
theorem dX9_run_54 : decode cX9_run 54 = .ok (.getfield 73, 3) := by decide +kernel
theorem dX9_run_57 : decode cX9_run 57 = .ok (.if_icmp .ge 117, 3) := by decide +kernel
theorem dX9_run_60 : decode cX9_run 60 = .ok (.aload_n 0, 1) := by decide +kernel
theorem dX9_run_61 : decode cX9_run 61 = .ok (.getfield 30, 3) := by decide +kernel
theorem dX9_run_64 : decode cX9_run 64 = .ok (.bipush 6, 2) := by decide +kernel
theorem dX9_run_66 : decode cX9_run 66 = .ok (.iload_n 1, 1) := by decide +kernel
theorem dX9_run_67 : decode cX9_run 67 = .ok (.imul, 1) := by decide +kernel
theorem dX9_run_68 : decode cX9_run 68 = .ok (.iaload, 1) := by decide +kernel
theorem dX9_run_69 : decode cX9_run 69 = .ok (.iload_n 2, 1) := by decide +kernel
theorem dX9_run_70 : decode cX9_run 70 = .ok (.if_icmp .ne 104, 3) := by decide +kernel
theorem dX9_run_73 : decode cX9_run 73 = .ok (.bipush 16, 2) := by decide +kernel
theorem dX9_run_75 : decode cX9_run 75 = .ok (.aload_n 0, 1) := by decide +kernel
theorem dX9_run_76 : decode cX9_run 76 = .ok (.getfield 30, 3) := by decide +kernel
theorem dX9_run_79 : decode cX9_run 79 = .ok (.bipush 6, 2) := by decide +kernel
theorem dX9_run_81 : decode cX9_run 81 = .ok (.iload_n 1, 1) := by decide +kernel
theorem dX9_run_82 : decode cX9_run 82 = .ok (.imul, 1) := by decide +kernel
theorem dX9_run_83 : decode cX9_run 83 = .ok (.iconst 2, 1) := by decide +kernel
theorem dX9_run_84 : decode cX9_run 84 = .ok (.iadd, 1) := by decide +kernel
theorem dX9_run_85 : decode cX9_run 85 = .ok (.iaload, 1) := by decide +kernel
theorem dX9_run_86 : decode cX9_run 86 = .ok (.imul, 1) := by decide +kernel
theorem dX9_run_87 : decode cX9_run 87 = .ok (.aload_n 0, 1) := by decide +kernel
theorem dX9_run_88 : decode cX9_run 88 = .ok (.getfield 30, 3) := by decide +kernel
theorem dX9_run_91 : decode cX9_run 91 = .ok (.bipush 6, 2) := by decide +kernel
theorem dX9_run_93 : decode cX9_run 93 = .ok (.iload_n 1, 1) := by decide +kernel
theorem dX9_run_94 : decode cX9_run 94 = .ok (.imul, 1) := by decide +kernel
theorem dX9_run_95 : decode cX9_run 95 = .ok (.iconst 4, 1) := by decide +kernel
theorem dX9_run_96 : decode cX9_run 96 = .ok (.iadd, 1) := by decide +kernel
theorem dX9_run_97 : decode cX9_run 97 = .ok (.iaload, 1) := by decide +kernel
theorem dX9_run_98 : decode cX9_run 98 = .ok (.iadd, 1) := by decide +kernel
theorem dX9_run_99 : decode cX9_run 99 = .ok (.istore_n 3, 1) := by decide +kernel
theorem dX9_run_100 : decode cX9_run 100 = .ok (.aload_n 0, 1) := by decide +kernel
theorem dX9_run_101 : decode cX9_run 101 = .ok (.getfield 44, 3) := by decide +kernel
theorem dX9_run_104 : decode cX9_run 104 = .ok (.bipush 16, 2) := by decide +kernel
theorem dX9_run_106 : decode cX9_run 106 = .ok (.aload_n 0, 1) := by decide +kernel
theorem dX9_run_107 : decode cX9_run 107 = .ok (.getfield 30, 3) := by decide +kernel
theorem dX9_run_110 : decode cX9_run 110 = .ok (.bipush 6, 2) := by decide +kernel
theorem dX9_run_112 : decode cX9_run 112 = .ok (.iload_n 1, 1) := by decide +kernel
theorem dX9_run_113 : decode cX9_run 113 = .ok (.imul, 1) := by decide +kernel
theorem dX9_run_114 : decode cX9_run 114 = .ok (.iconst 1, 1) := by decide +kernel
theorem dX9_run_115 : decode cX9_run 115 = .ok (.iadd, 1) := by decide +kernel
theorem dX9_run_116 : decode cX9_run 116 = .ok (.iaload, 1) := by decide +kernel
theorem dX9_run_117 : decode cX9_run 117 = .ok (.imul, 1) := by decide +kernel
theorem dX9_run_118 : decode cX9_run 118 = .ok (.aload_n 0, 1) := by decide +kernel
theorem dX9_run_119 : decode cX9_run 119 = .ok (.getfield 30, 3) := by decide +kernel
theorem dX9_run_122 : decode cX9_run 122 = .ok (.bipush 6, 2) := by decide +kernel
theorem dX9_run_124 : decode cX9_run 124 = .ok (.iload_n 1, 1) := by decide +kernel
theorem dX9_run_125 : decode cX9_run 125 = .ok (.imul, 1) := by decide +kernel
theorem dX9_run_126 : decode cX9_run 126 = .ok (.iconst 3, 1) := by decide +kernel
theorem dX9_run_127 : decode cX9_run 127 = .ok (.iadd, 1) := by decide +kernel
theorem dX9_run_128 : decode cX9_run 128 = .ok (.iaload, 1) := by decide +kernel
theorem dX9_run_129 : decode cX9_run 129 = .ok (.iadd, 1) := by decide +kernel
theorem dX9_run_130 : decode cX9_run 130 = .ok (.iaload, 1) := by decide +kernel
theorem dX9_run_131 : decode cX9_run 131 = .ok (.istore 4, 2) := by decide +kernel
theorem dX9_run_133 : decode cX9_run 133 = .ok (.aload_n 0, 1) := by decide +kernel
theorem dX9_run_134 : decode cX9_run 134 = .ok (.getfield 27, 3) := by decide +kernel
theorem dX9_run_137 : decode cX9_run 137 = .ok (.iload_n 3, 1) := by decide +kernel
theorem dX9_run_138 : decode cX9_run 138 = .ok (.aload_n 0, 1) := by decide +kernel
theorem dX9_run_139 : decode cX9_run 139 = .ok (.getfield 30, 3) := by decide +kernel
theorem dX9_run_142 : decode cX9_run 142 = .ok (.bipush 6, 2) := by decide +kernel
theorem dX9_run_144 : decode cX9_run 144 = .ok (.iload_n 1, 1) := by decide +kernel
theorem dX9_run_145 : decode cX9_run 145 = .ok (.imul, 1) := by decide +kernel
theorem dX9_run_146 : decode cX9_run 146 = .ok (.iconst 5, 1) := by decide +kernel
theorem dX9_run_147 : decode cX9_run 147 = .ok (.iadd, 1) := by decide +kernel
theorem dX9_run_148 : decode cX9_run 148 = .ok (.iaload, 1) := by decide +kernel
theorem dX9_run_149 : decode cX9_run 149 = .ok (.iconst 1, 1) := by decide +kernel
theorem dX9_run_150 : decode cX9_run 150 = .ok (.if_icmp .ne 15, 3) := by decide +kernel
theorem dX9_run_153 : decode cX9_run 153 = .ok (.aload_n 0, 1) := by decide +kernel
theorem dX9_run_154 : decode cX9_run 154 = .ok (.getfield 44, 3) := by decide +kernel
theorem dX9_run_157 : decode cX9_run 157 = .ok (.iload_n 3, 1) := by decide +kernel
theorem dX9_run_158 : decode cX9_run 158 = .ok (.iaload, 1) := by decide +kernel
theorem dX9_run_159 : decode cX9_run 159 = .ok (.iload 4, 2) := by decide +kernel
theorem dX9_run_161 : decode cX9_run 161 = .ok (.iadd, 1) := by decide +kernel
theorem dX9_run_162 : decode cX9_run 162 = .ok (.goto 5, 3) := by decide +kernel
theorem dX9_run_165 : decode cX9_run 165 = .ok (.iload 4, 2) := by decide +kernel
theorem dX9_run_167 : decode cX9_run 167 = .ok (.iastore, 1) := by decide +kernel
theorem dX9_run_168 : decode cX9_run 168 = .ok (.iinc 1 1, 3) := by decide +kernel
theorem dX9_run_171 : decode cX9_run 171 = .ok (.goto (-119), 3) := by decide +kernel
theorem dX9_run_174 : decode cX9_run 174 = .ok (.goto (-167), 3) := by decide +kernel
theorem dX9_run_177 : decode cX9_run 177 = .ok (.aload_n 0, 1) := by decide +kernel
theorem dX9_run_178 : decode cX9_run 178 = .ok (.getfield 30, 3) := by decide +kernel
theorem dX9_run_181 : decode cX9_run 181 = .ok (.aload_n 0, 1) := by decide +kernel
theorem dX9_run_182 : decode cX9_run 182 = .ok (.getfield 73, 3) := by decide +kernel
theorem dX9_run_185 : decode cX9_run 185 = .ok (.invokestatic 101, 3) := by decide +kernel
theorem dX9_run_188 : decode cX9_run 188 = .ok (.ireturn, 1) := by decide +kernel
set_option maxRecDepth 20000 in
theorem ggX9_ticksOf_X9_stepsOf : GoodIn wsX9_ticksOf wsX9_stepsOf := goodIn_r _ [4] (by decide +kernel) (by decide +kernel)
set_option maxRecDepth 20000 in
theorem gX9_ticksOf_X9_stepsOf : GoodIn wsX9_ticksOf (va_wsS RX9 101 yX9_stepsOf wsX9_stepsOf) := goodIn_app (goodIn_of _ (by decide +kernel)) ggX9_ticksOf_X9_stepsOf
set_option maxRecDepth 20000 in
theorem ggX9_ticksOf_X9_timeOf : GoodIn wsX9_ticksOf wsX9_timeOf := goodIn_r _ [8, 9, 10, 11, 12, 3, 13, 14, 15, 16, 17, 18, 19, 20, 21, 22, 23, 24, 25, 26, 27, 28, 29, 30, 31, 32] (by decide +kernel) (by decide +kernel)
set_option maxRecDepth 20000 in
theorem gX9_ticksOf_X9_timeOf : GoodIn wsX9_ticksOf (wsV RX9 169 RX9 yX9_timeOf wsX9_timeOf) := goodIn_app (goodIn_of _ (by decide +kernel)) ggX9_ticksOf_X9_timeOf
theorem dX9_ticksOf_0 : decode cX9_ticksOf 0 = .ok (.iconst 0, 1) := by decide +kernel
theorem dX9_ticksOf_1 : decode cX9_ticksOf 1 = .ok (.istore_n 3, 1) := by decide +kernel
theorem dX9_ticksOf_2 : decode cX9_ticksOf 2 = .ok (.iconst 0, 1) := by decide +kernel
theorem dX9_ticksOf_3 : decode cX9_ticksOf 3 = .ok (.istore 4, 2) := by decide +kernel
theorem dX9_ticksOf_5 : decode cX9_ticksOf 5 = .ok (.iload 4, 2) := by decide +kernel
theorem dX9_ticksOf_7 : decode cX9_ticksOf 7 = .ok (.aload_n 1, 1) := by decide +kernel
theorem dX9_ticksOf_8 : decode cX9_ticksOf 8 = .ok (.iload_n 2, 1) := by decide +kernel
theorem dX9_ticksOf_9 : decode cX9_ticksOf 9 = .ok (.invokestatic 101, 3) := by decide +kernel
theorem dX9_ticksOf_12 : decode cX9_ticksOf 12 = .ok (.if_icmp .ge 73, 3) := by decide +kernel
theorem dX9_ticksOf_15 : decode cX9_ticksOf 15 = .ok (.iconst 0, 1) := by decide +kernel
theorem dX9_ticksOf_16 : decode cX9_ticksOf 16 = .ok (.istore 5, 2) := by decide +kernel
theorem dX9_ticksOf_18 : decode cX9_ticksOf 18 = .ok (.iconst 0, 1) := by decide +kernel
theorem dX9_ticksOf_19 : decode cX9_ticksOf 19 = .ok (.istore 6, 2) := by decide +kernel
theorem dX9_ticksOf_21 : decode cX9_ticksOf 21 = .ok (.iload 6, 2) := by decide +kernel
theorem dX9_ticksOf_23 : decode cX9_ticksOf 23 = .ok (.iload_n 2, 1) := by decide +kernel
theorem dX9_ticksOf_24 : decode cX9_ticksOf 24 = .ok (.if_icmp .ge 50, 3) := by decide +kernel
theorem dX9_ticksOf_27 : decode cX9_ticksOf 27 = .ok (.aload_n 1, 1) := by decide +kernel
theorem dX9_ticksOf_28 : decode cX9_ticksOf 28 = .ok (.bipush 6, 2) := by decide +kernel
theorem dX9_ticksOf_30 : decode cX9_ticksOf 30 = .ok (.iload 6, 2) := by decide +kernel
theorem dX9_ticksOf_32 : decode cX9_ticksOf 32 = .ok (.imul, 1) := by decide +kernel
theorem dX9_ticksOf_33 : decode cX9_ticksOf 33 = .ok (.iaload, 1) := by decide +kernel
theorem dX9_ticksOf_34 : decode cX9_ticksOf 34 = .ok (.iload 4, 2) := by decide +kernel
theorem dX9_ticksOf_36 : decode cX9_ticksOf 36 = .ok (.if_icmp .eq 6, 3) := by decide +kernel
theorem dX9_ticksOf_39 : decode cX9_ticksOf 39 = .ok (.goto 29, 3) := by decide +kernel
theorem dX9_ticksOf_42 : decode cX9_ticksOf 42 = .ok (.aload_n 0, 1) := by decide +kernel
theorem dX9_ticksOf_43 : decode cX9_ticksOf 43 = .ok (.aload_n 1, 1) := by decide +kernel
theorem dX9_ticksOf_44 : decode cX9_ticksOf 44 = .ok (.iload_n 2, 1) := by decide +kernel
theorem dX9_ticksOf_45 : decode cX9_ticksOf 45 = .ok (.iload 6, 2) := by decide +kernel
theorem dX9_ticksOf_47 : decode cX9_ticksOf 47 = .ok (.invokevirtual 169, 3) := by decide +kernel
theorem dX9_ticksOf_50 : decode cX9_ticksOf 50 = .ok (.istore 7, 2) := by decide +kernel
theorem dX9_ticksOf_52 : decode cX9_ticksOf 52 = .ok (.iload 7, 2) := by decide +kernel
theorem dX9_ticksOf_54 : decode cX9_ticksOf 54 = .ok (.iload 5, 2) := by decide +kernel
theorem dX9_ticksOf_56 : decode cX9_ticksOf 56 = .ok (.if_icmp .le 8, 3) := by decide +kernel
theorem dX9_ticksOf_59 : decode cX9_ticksOf 59 = .ok (.iload 7, 2) := by decide +kernel
theorem dX9_ticksOf_61 : decode cX9_ticksOf 61 = .ok (.goto 5, 3) := by decide +kernel
theorem dX9_ticksOf_64 : decode cX9_ticksOf 64 = .ok (.iload 5, 2) := by decide +kernel
theorem dX9_ticksOf_66 : decode cX9_ticksOf 66 = .ok (.istore 5, 2) := by decide +kernel
theorem dX9_ticksOf_68 : decode cX9_ticksOf 68 = .ok (.iinc 6 1, 3) := by decide +kernel
theorem dX9_ticksOf_71 : decode cX9_ticksOf 71 = .ok (.goto (-50), 3) := by decide +kernel
theorem dX9_ticksOf_74 : decode cX9_ticksOf 74 = .ok (.iload_n 3, 1) := by decide +kernel
theorem dX9_ticksOf_75 : decode cX9_ticksOf 75 = .ok (.iload 5, 2) := by decide +kernel
theorem dX9_ticksOf_77 : decode cX9_ticksOf 77 = .ok (.iadd, 1) := by decide +kernel
theorem dX9_ticksOf_78 : decode cX9_ticksOf 78 = .ok (.istore_n 3, 1) := by decide +kernel
theorem dX9_ticksOf_79 : decode cX9_ticksOf 79 = .ok (.iinc 4 1, 3) := by decide +kernel
theorem dX9_ticksOf_82 : decode cX9_ticksOf 82 = .ok (.goto (-77), 3) := by decide +kernel
theorem dX9_ticksOf_85 : decode cX9_ticksOf 85 = .ok (.iload_n 3, 1) := by decide +kernel
theorem dX9_ticksOf_86 : decode cX9_ticksOf 86 = .ok (.ireturn, 1) := by decide +kernel
set_option maxRecDepth 20000 in
theorem ggX9_timeOf_X9_letter : GoodIn wsX9_timeOf wsX9_letter := goodIn_r _ [6] (by decide +kernel) (by decide +kernel)
set_option maxRecDepth 20000 in
theorem gX9_timeOf_X9_letter : GoodIn wsX9_timeOf (va_wsS RX9 173 yX9_letter wsX9_letter) := goodIn_app (goodIn_of _ (by decide +kernel)) ggX9_timeOf_X9_letter
theorem dX9_timeOf_0 : decode cX9_timeOf 0 = .ok (.bipush 16, 2) := by decide +kernel
theorem dX9_timeOf_2 : decode cX9_timeOf 2 = .ok (.aload_n 1, 1) := by decide +kernel
theorem dX9_timeOf_3 : decode cX9_timeOf 3 = .ok (.bipush 6, 2) := by decide +kernel
theorem dX9_timeOf_5 : decode cX9_timeOf 5 = .ok (.iload_n 3, 1) := by decide +kernel
theorem dX9_timeOf_6 : decode cX9_timeOf 6 = .ok (.imul, 1) := by decide +kernel
theorem dX9_timeOf_7 : decode cX9_timeOf 7 = .ok (.iconst 1, 1) := by decide +kernel
theorem dX9_timeOf_8 : decode cX9_timeOf 8 = .ok (.iadd, 1) := by decide +kernel
theorem dX9_timeOf_9 : decode cX9_timeOf 9 = .ok (.iaload, 1) := by decide +kernel
theorem dX9_timeOf_10 : decode cX9_timeOf 10 = .ok (.imul, 1) := by decide +kernel
theorem dX9_timeOf_11 : decode cX9_timeOf 11 = .ok (.aload_n 1, 1) := by decide +kernel
theorem dX9_timeOf_12 : decode cX9_timeOf 12 = .ok (.bipush 6, 2) := by decide +kernel
theorem dX9_timeOf_14 : decode cX9_timeOf 14 = .ok (.iload_n 3, 1) := by decide +kernel
theorem dX9_timeOf_15 : decode cX9_timeOf 15 = .ok (.imul, 1) := by decide +kernel
theorem dX9_timeOf_16 : decode cX9_timeOf 16 = .ok (.iconst 2, 1) := by decide +kernel
theorem dX9_timeOf_17 : decode cX9_timeOf 17 = .ok (.iadd, 1) := by decide +kernel
theorem dX9_timeOf_18 : decode cX9_timeOf 18 = .ok (.iaload, 1) := by decide +kernel
theorem dX9_timeOf_19 : decode cX9_timeOf 19 = .ok (.iadd, 1) := by decide +kernel
theorem dX9_timeOf_20 : decode cX9_timeOf 20 = .ok (.istore 4, 2) := by decide +kernel
theorem dX9_timeOf_22 : decode cX9_timeOf 22 = .ok (.aload_n 0, 1) := by decide +kernel
theorem dX9_timeOf_23 : decode cX9_timeOf 23 = .ok (.getfield 21, 3) := by decide +kernel
theorem dX9_timeOf_26 : decode cX9_timeOf 26 = .ok (.iload 4, 2) := by decide +kernel
theorem dX9_timeOf_28 : decode cX9_timeOf 28 = .ok (.iaload, 1) := by decide +kernel
theorem dX9_timeOf_29 : decode cX9_timeOf 29 = .ok (.aload_n 1, 1) := by decide +kernel
theorem dX9_timeOf_30 : decode cX9_timeOf 30 = .ok (.iload_n 2, 1) := by decide +kernel
theorem dX9_timeOf_31 : decode cX9_timeOf 31 = .ok (.aload_n 1, 1) := by decide +kernel
theorem dX9_timeOf_32 : decode cX9_timeOf 32 = .ok (.bipush 6, 2) := by decide +kernel
theorem dX9_timeOf_34 : decode cX9_timeOf 34 = .ok (.iload_n 3, 1) := by decide +kernel
theorem dX9_timeOf_35 : decode cX9_timeOf 35 = .ok (.imul, 1) := by decide +kernel
theorem dX9_timeOf_36 : decode cX9_timeOf 36 = .ok (.iaload, 1) := by decide +kernel
theorem dX9_timeOf_37 : decode cX9_timeOf 37 = .ok (.aload_n 1, 1) := by decide +kernel
theorem dX9_timeOf_38 : decode cX9_timeOf 38 = .ok (.bipush 6, 2) := by decide +kernel
theorem dX9_timeOf_40 : decode cX9_timeOf 40 = .ok (.iload_n 3, 1) := by decide +kernel
theorem dX9_timeOf_41 : decode cX9_timeOf 41 = .ok (.imul, 1) := by decide +kernel
theorem dX9_timeOf_42 : decode cX9_timeOf 42 = .ok (.iconst 1, 1) := by decide +kernel
theorem dX9_timeOf_43 : decode cX9_timeOf 43 = .ok (.iadd, 1) := by decide +kernel
theorem dX9_timeOf_44 : decode cX9_timeOf 44 = .ok (.iaload, 1) := by decide +kernel
theorem dX9_timeOf_45 : decode cX9_timeOf 45 = .ok (.aload_n 1, 1) := by decide +kernel
theorem dX9_timeOf_46 : decode cX9_timeOf 46 = .ok (.bipush 6, 2) := by decide +kernel
theorem dX9_timeOf_48 : decode cX9_timeOf 48 = .ok (.iload_n 3, 1) := by decide +kernel
theorem dX9_timeOf_49 : decode cX9_timeOf 49 = .ok (.imul, 1) := by decide +kernel
theorem dX9_timeOf_50 : decode cX9_timeOf 50 = .ok (.iconst 2, 1) := by decide +kernel
theorem dX9_timeOf_51 : decode cX9_timeOf 51 = .ok (.iadd, 1) := by decide +kernel
theorem dX9_timeOf_52 : decode cX9_timeOf 52 = .ok (.iaload, 1) := by decide +kernel
theorem dX9_timeOf_53 : decode cX9_timeOf 53 = .ok (.invokestatic 173, 3) := by decide +kernel
theorem dX9_timeOf_56 : decode cX9_timeOf 56 = .ok (.aload_n 0, 1) := by decide +kernel
theorem dX9_timeOf_57 : decode cX9_timeOf 57 = .ok (.getfield 24, 3) := by decide +kernel
theorem dX9_timeOf_60 : decode cX9_timeOf 60 = .ok (.iload 4, 2) := by decide +kernel
theorem dX9_timeOf_62 : decode cX9_timeOf 62 = .ok (.iaload, 1) := by decide +kernel
theorem dX9_timeOf_63 : decode cX9_timeOf 63 = .ok (.imul, 1) := by decide +kernel
theorem dX9_timeOf_64 : decode cX9_timeOf 64 = .ok (.iadd, 1) := by decide +kernel
theorem dX9_timeOf_65 : decode cX9_timeOf 65 = .ok (.ireturn, 1) := by decide +kernel
set_option maxRecDepth 20000 in
theorem ggX9_ticks_X9_ticksOf : GoodIn wsX9_ticks wsX9_ticksOf := goodIn_r _ [8, 9, 10, 7, 11, 12, 13, 14, 15, 16, 17, 18, 19, 20, 21, 22, 23, 24, 25, 26, 27, 28, 29, 30, 31, 32, 33, 34, 35, 36, 37, 38, 39] (by decide +kernel) (by decide +kernel)
set_option maxRecDepth 20000 in
theorem gX9_ticks_X9_ticksOf : GoodIn wsX9_ticks (wsV RX9 177 RX9 yX9_ticksOf wsX9_ticksOf) := goodIn_app (goodIn_of _ (by decide +kernel)) ggX9_ticks_X9_ticksOf
theorem dX9_ticks_0 : decode cX9_ticks 0 = .ok (.aload_n 0, 1) := by decide +kernel
theorem dX9_ticks_1 : decode cX9_ticks 1 = .ok (.iconst 0, 1) := by decide +kernel
theorem dX9_ticks_2 : decode cX9_ticks 2 = .ok (.putfield 62, 3) := by decide +kernel
theorem dX9_ticks_5 : decode cX9_ticks 5 = .ok (.aload_n 0, 1) := by decide +kernel
theorem dX9_ticks_6 : decode cX9_ticks 6 = .ok (.aload_n 0, 1) := by decide +kernel
theorem dX9_ticks_7 : decode cX9_ticks 7 = .ok (.getfield 30, 3) := by decide +kernel
theorem dX9_ticks_10 : decode cX9_ticks 10 = .ok (.aload_n 0, 1) := by decide +kernel
theorem dX9_ticks_11 : decode cX9_ticks 11 = .ok (.getfield 73, 3) := by decide +kernel
theorem dX9_ticks_14 : decode cX9_ticks 14 = .ok (.invokevirtual 177, 3) := by decide +kernel
theorem dX9_ticks_17 : decode cX9_ticks 17 = .ok (.ireturn, 1) := by decide +kernel
set_option maxRecDepth 20000 in
theorem ggX9_freely_X9_isLive : GoodIn wsX9_freely wsX9_isLive := goodIn_r _ [11, 12, 13, 14, 15, 10, 16, 17, 18, 19, 20, 30, 31, 32, 33, 34, 35, 36, 37, 38, 39, 40, 41, 42, 43, 44, 45, 46, 47, 48] (by decide +kernel) (by decide +kernel)
set_option maxRecDepth 20000 in
theorem gX9_freely_X9_isLive : GoodIn wsX9_freely (wsV RX9 94 RX9 yX9_isLive wsX9_isLive) := goodIn_app (goodIn_of _ (by decide +kernel)) ggX9_freely_X9_isLive
set_option maxRecDepth 20000 in
theorem ggX9_freely_X9_timeOf : GoodIn wsX9_freely wsX9_timeOf := goodIn_r _ [24, 25, 26, 27, 28, 10, 29, 30, 31, 32, 33, 34, 35, 36, 37, 38, 39, 40, 41, 42, 43, 44, 45, 46, 47, 48] (by decide +kernel) (by decide +kernel)
set_option maxRecDepth 20000 in
theorem gX9_freely_X9_timeOf : GoodIn wsX9_freely (wsV RX9 169 RX9 yX9_timeOf wsX9_timeOf) := goodIn_app (goodIn_of _ (by decide +kernel)) ggX9_freely_X9_timeOf
theorem dX9_freely_0 : decode cX9_freely 0 = .ok (.aload_n 0, 1) := by decide +kernel
theorem dX9_freely_1 : decode cX9_freely 1 = .ok (.iconst 0, 1) := by decide +kernel
theorem dX9_freely_2 : decode cX9_freely 2 = .ok (.putfield 62, 3) := by decide +kernel
theorem dX9_freely_5 : decode cX9_freely 5 = .ok (.aload_n 0, 1) := by decide +kernel
theorem dX9_freely_6 : decode cX9_freely 6 = .ok (.iload_n 1, 1) := by decide +kernel
theorem dX9_freely_7 : decode cX9_freely 7 = .ok (.invokevirtual 94, 3) := by decide +kernel
theorem dX9_freely_10 : decode cX9_freely 10 = .ok (.ifCond .ne 5, 3) := by decide +kernel
theorem dX9_freely_13 : decode cX9_freely 13 = .ok (.iconst (-1), 1) := by decide +kernel
theorem dX9_freely_14 : decode cX9_freely 14 = .ok (.ireturn, 1) := by decide +kernel
theorem dX9_freely_15 : decode cX9_freely 15 = .ok (.iconst 0, 1) := by decide +kernel
theorem dX9_freely_16 : decode cX9_freely 16 = .ok (.istore_n 2, 1) := by decide +kernel
theorem dX9_freely_17 : decode cX9_freely 17 = .ok (.iload_n 2, 1) := by decide +kernel
theorem dX9_freely_18 : decode cX9_freely 18 = .ok (.bipush 16, 2) := by decide +kernel
theorem dX9_freely_20 : decode cX9_freely 20 = .ok (.if_icmp .ge 21, 3) := by decide +kernel
theorem dX9_freely_23 : decode cX9_freely 23 = .ok (.aload_n 0, 1) := by decide +kernel
theorem dX9_freely_24 : decode cX9_freely 24 = .ok (.getfield 47, 3) := by decide +kernel
theorem dX9_freely_27 : decode cX9_freely 27 = .ok (.iload_n 2, 1) := by decide +kernel
theorem dX9_freely_28 : decode cX9_freely 28 = .ok (.aload_n 0, 1) := by decide +kernel
theorem dX9_freely_29 : decode cX9_freely 29 = .ok (.getfield 17, 3) := by decide +kernel
theorem dX9_freely_32 : decode cX9_freely 32 = .ok (.iload_n 2, 1) := by decide +kernel
theorem dX9_freely_33 : decode cX9_freely 33 = .ok (.iaload, 1) := by decide +kernel
theorem dX9_freely_34 : decode cX9_freely 34 = .ok (.iastore, 1) := by decide +kernel
theorem dX9_freely_35 : decode cX9_freely 35 = .ok (.iinc 2 1, 3) := by decide +kernel
theorem dX9_freely_38 : decode cX9_freely 38 = .ok (.goto (-21), 3) := by decide +kernel
theorem dX9_freely_41 : decode cX9_freely 41 = .ok (.iconst 0, 1) := by decide +kernel
theorem dX9_freely_42 : decode cX9_freely 42 = .ok (.istore_n 2, 1) := by decide +kernel
theorem dX9_freely_43 : decode cX9_freely 43 = .ok (.iload_n 2, 1) := by decide +kernel
theorem dX9_freely_44 : decode cX9_freely 44 = .ok (.aload_n 0, 1) := by decide +kernel
theorem dX9_freely_45 : decode cX9_freely 45 = .ok (.getfield 73, 3) := by decide +kernel
theorem dX9_freely_48 : decode cX9_freely 48 = .ok (.if_icmp .ge 211, 3) := by decide +kernel
theorem dX9_freely_51 : decode cX9_freely 51 = .ok (.aload_n 0, 1) := by decide +kernel
theorem dX9_freely_52 : decode cX9_freely 52 = .ok (.getfield 30, 3) := by decide +kernel
theorem dX9_freely_55 : decode cX9_freely 55 = .ok (.bipush 6, 2) := by decide +kernel
theorem dX9_freely_57 : decode cX9_freely 57 = .ok (.iload_n 2, 1) := by decide +kernel
theorem dX9_freely_58 : decode cX9_freely 58 = .ok (.imul, 1) := by decide +kernel
theorem dX9_freely_59 : decode cX9_freely 59 = .ok (.iaload, 1) := by decide +kernel
theorem dX9_freely_60 : decode cX9_freely 60 = .ok (.istore_n 3, 1) := by decide +kernel
theorem dX9_freely_61 : decode cX9_freely 61 = .ok (.iconst 0, 1) := by decide +kernel
theorem dX9_freely_62 : decode cX9_freely 62 = .ok (.istore 4, 2) := by decide +kernel
theorem dX9_freely_64 : decode cX9_freely 64 = .ok (.iload 4, 2) := by decide +kernel
theorem dX9_freely_66 : decode cX9_freely 66 = .ok (.bipush 16, 2) := by decide +kernel
theorem dX9_freely_68 : decode cX9_freely 68 = .ok (.if_icmp .ge 23, 3) := by decide +kernel
theorem dX9_freely_71 : decode cX9_freely 71 = .ok (.aload_n 0, 1) := by decide +kernel
theorem dX9_freely_72 : decode cX9_freely 72 = .ok (.getfield 50, 3) := by decide +kernel
theorem dX9_freely_75 : decode cX9_freely 75 = .ok (.iload 4, 2) := by decide +kernel
theorem dX9_freely_77 : decode cX9_freely 77 = .ok (.aload_n 0, 1) := by decide +kernel
theorem dX9_freely_78 : decode cX9_freely 78 = .ok (.getfield 47, 3) := by decide +kernel
theorem dX9_freely_81 : decode cX9_freely 81 = .ok (.iload 4, 2) := by decide +kernel
theorem dX9_freely_83 : decode cX9_freely 83 = .ok (.iaload, 1) := by decide +kernel
theorem dX9_freely_84 : decode cX9_freely 84 = .ok (.iastore, 1) := by decide +kernel
theorem dX9_freely_85 : decode cX9_freely 85 = .ok (.iinc 4 1, 3) := by decide +kernel
theorem dX9_freely_88 : decode cX9_freely 88 = .ok (.goto (-24), 3) := by decide +kernel
theorem dX9_freely_91 : decode cX9_freely 91 = .ok (.iload_n 2, 1) := by decide +kernel
theorem dX9_freely_92 : decode cX9_freely 92 = .ok (.aload_n 0, 1) := by decide +kernel
theorem dX9_freely_93 : decode cX9_freely 93 = .ok (.getfield 73, 3) := by decide +kernel
theorem dX9_freely_96 : decode cX9_freely 96 = .ok (.if_icmp .ge 160, 3) := by decide +kernel
theorem dX9_freely_99 : decode cX9_freely 99 = .ok (.aload_n 0, 1) := by decide +kernel
theorem dX9_freely_100 : decode cX9_freely 100 = .ok (.getfield 30, 3) := by decide +kernel
theorem dX9_freely_103 : decode cX9_freely 103 = .ok (.bipush 6, 2) := by decide +kernel
theorem dX9_freely_105 : decode cX9_freely 105 = .ok (.iload_n 2, 1) := by decide +kernel
theorem dX9_freely_106 : decode cX9_freely 106 = .ok (.imul, 1) := by decide +kernel
theorem dX9_freely_107 : decode cX9_freely 107 = .ok (.iaload, 1) := by decide +kernel
theorem dX9_freely_108 : decode cX9_freely 108 = .ok (.iload_n 3, 1) := by decide +kernel
theorem dX9_freely_109 : decode cX9_freely 109 = .ok (.if_icmp .ne 147, 3) := by decide +kernel
theorem dX9_freely_112 : decode cX9_freely 112 = .ok (.aload_n 0, 1) := by decide +kernel
theorem dX9_freely_113 : decode cX9_freely 113 = .ok (.getfield 30, 3) := by decide +kernel
theorem dX9_freely_116 : decode cX9_freely 116 = .ok (.bipush 6, 2) := by decide +kernel
theorem dX9_freely_118 : decode cX9_freely 118 = .ok (.iload_n 2, 1) := by decide +kernel
theorem dX9_freely_119 : decode cX9_freely 119 = .ok (.imul, 1) := by decide +kernel
theorem dX9_freely_120 : decode cX9_freely 120 = .ok (.iconst 1, 1) := by decide +kernel
theorem dX9_freely_121 : decode cX9_freely 121 = .ok (.iadd, 1) := by decide +kernel
theorem dX9_freely_122 : decode cX9_freely 122 = .ok (.iaload, 1) := by decide +kernel
theorem dX9_freely_123 : decode cX9_freely 123 = .ok (.istore 4, 2) := by decide +kernel
theorem dX9_freely_125 : decode cX9_freely 125 = .ok (.aload_n 0, 1) := by decide +kernel
theorem dX9_freely_126 : decode cX9_freely 126 = .ok (.getfield 30, 3) := by decide +kernel
theorem dX9_freely_129 : decode cX9_freely 129 = .ok (.bipush 6, 2) := by decide +kernel
theorem dX9_freely_131 : decode cX9_freely 131 = .ok (.iload_n 2, 1) := by decide +kernel
theorem dX9_freely_132 : decode cX9_freely 132 = .ok (.imul, 1) := by decide +kernel
theorem dX9_freely_133 : decode cX9_freely 133 = .ok (.iconst 2, 1) := by decide +kernel
theorem dX9_freely_134 : decode cX9_freely 134 = .ok (.iadd, 1) := by decide +kernel
theorem dX9_freely_135 : decode cX9_freely 135 = .ok (.iaload, 1) := by decide +kernel
theorem dX9_freely_136 : decode cX9_freely 136 = .ok (.istore 5, 2) := by decide +kernel
theorem dX9_freely_138 : decode cX9_freely 138 = .ok (.aload_n 0, 1) := by decide +kernel
theorem dX9_freely_139 : decode cX9_freely 139 = .ok (.getfield 50, 3) := by decide +kernel
theorem dX9_freely_142 : decode cX9_freely 142 = .ok (.iload 4, 2) := by decide +kernel
theorem dX9_freely_144 : decode cX9_freely 144 = .ok (.iaload, 1) := by decide +kernel
theorem dX9_freely_145 : decode cX9_freely 145 = .ok (.aload_n 0, 1) := by decide +kernel
theorem dX9_freely_146 : decode cX9_freely 146 = .ok (.getfield 50, 3) := by decide +kernel
theorem dX9_freely_149 : decode cX9_freely 149 = .ok (.iload 5, 2) := by decide +kernel
theorem dX9_freely_151 : decode cX9_freely 151 = .ok (.iaload, 1) := by decide +kernel
theorem dX9_freely_152 : decode cX9_freely 152 = .ok (.if_icmp .le 13, 3) := by decide +kernel
theorem dX9_freely_155 : decode cX9_freely 155 = .ok (.aload_n 0, 1) := by decide +kernel
theorem dX9_freely_156 : decode cX9_freely 156 = .ok (.getfield 50, 3) := by decide +kernel
theorem dX9_freely_159 : decode cX9_freely 159 = .ok (.iload 4, 2) := by decide +kernel
theorem dX9_freely_161 : decode cX9_freely 161 = .ok (.iaload, 1) := by decide +kernel
theorem dX9_freely_162 : decode cX9_freely 162 = .ok (.goto 10, 3) := by decide +kernel
theorem dX9_freely_165 : decode cX9_freely 165 = .ok (.aload_n 0, 1) := by decide +kernel
theorem dX9_freely_166 : decode cX9_freely 166 = .ok (.getfield 50, 3) := by decide +kernel
theorem dX9_freely_169 : decode cX9_freely 169 = .ok (.iload 5, 2) := by decide +kernel
theorem dX9_freely_171 : decode cX9_freely 171 = .ok (.iaload, 1) := by decide +kernel
theorem dX9_freely_172 : decode cX9_freely 172 = .ok (.aload_n 0, 1) := by decide +kernel
theorem dX9_freely_173 : decode cX9_freely 173 = .ok (.aload_n 0, 1) := by decide +kernel
theorem dX9_freely_174 : decode cX9_freely 174 = .ok (.getfield 30, 3) := by decide +kernel
theorem dX9_freely_177 : decode cX9_freely 177 = .ok (.aload_n 0, 1) := by decide +kernel
theorem dX9_freely_178 : decode cX9_freely 178 = .ok (.getfield 73, 3) := by decide +kernel
theorem dX9_freely_181 : decode cX9_freely 181 = .ok (.iload_n 2, 1) := by decide +kernel
theorem dX9_freely_182 : decode cX9_freely 182 = .ok (.invokevirtual 169, 3) := by decide +kernel
theorem dX9_freely_185 : decode cX9_freely 185 = .ok (.iadd, 1) := by decide +kernel
theorem dX9_freely_186 : decode cX9_freely 186 = .ok (.istore 6, 2) := by decide +kernel
theorem dX9_freely_188 : decode cX9_freely 188 = .ok (.aload_n 0, 1) := by decide +kernel
theorem dX9_freely_189 : decode cX9_freely 189 = .ok (.getfield 47, 3) := by decide +kernel
theorem dX9_freely_192 : decode cX9_freely 192 = .ok (.iload 4, 2) := by decide +kernel
theorem dX9_freely_194 : decode cX9_freely 194 = .ok (.iload 6, 2) := by decide +kernel
theorem dX9_freely_196 : decode cX9_freely 196 = .ok (.aload_n 0, 1) := by decide +kernel
theorem dX9_freely_197 : decode cX9_freely 197 = .ok (.getfield 47, 3) := by decide +kernel
theorem dX9_freely_200 : decode cX9_freely 200 = .ok (.iload 4, 2) := by decide +kernel
theorem dX9_freely_202 : decode cX9_freely 202 = .ok (.iaload, 1) := by decide +kernel
theorem dX9_freely_203 : decode cX9_freely 203 = .ok (.if_icmp .le 8, 3) := by decide +kernel
theorem dX9_freely_206 : decode cX9_freely 206 = .ok (.iload 6, 2) := by decide +kernel
theorem dX9_freely_208 : decode cX9_freely 208 = .ok (.goto 10, 3) := by decide +kernel
theorem dX9_freely_211 : decode cX9_freely 211 = .ok (.aload_n 0, 1) := by decide +kernel
theorem dX9_freely_212 : decode cX9_freely 212 = .ok (.getfield 47, 3) := by decide +kernel
theorem dX9_freely_215 : decode cX9_freely 215 = .ok (.iload 4, 2) := by decide +kernel
theorem dX9_freely_217 : decode cX9_freely 217 = .ok (.iaload, 1) := by decide +kernel
theorem dX9_freely_218 : decode cX9_freely 218 = .ok (.iastore, 1) := by decide +kernel
theorem dX9_freely_219 : decode cX9_freely 219 = .ok (.aload_n 0, 1) := by decide +kernel
theorem dX9_freely_220 : decode cX9_freely 220 = .ok (.getfield 47, 3) := by decide +kernel
theorem dX9_freely_223 : decode cX9_freely 223 = .ok (.iload 5, 2) := by decide +kernel
theorem dX9_freely_225 : decode cX9_freely 225 = .ok (.iload 6, 2) := by decide +kernel
theorem dX9_freely_227 : decode cX9_freely 227 = .ok (.aload_n 0, 1) := by decide +kernel
theorem dX9_freely_228 : decode cX9_freely 228 = .ok (.getfield 47, 3) := by decide +kernel
theorem dX9_freely_231 : decode cX9_freely 231 = .ok (.iload 5, 2) := by decide +kernel
theorem dX9_freely_233 : decode cX9_freely 233 = .ok (.iaload, 1) := by decide +kernel
theorem dX9_freely_234 : decode cX9_freely 234 = .ok (.if_icmp .le 8, 3) := by decide +kernel
theorem dX9_freely_237 : decode cX9_freely 237 = .ok (.iload 6, 2) := by decide +kernel
theorem dX9_freely_239 : decode cX9_freely 239 = .ok (.goto 10, 3) := by decide +kernel
theorem dX9_freely_242 : decode cX9_freely 242 = .ok (.aload_n 0, 1) := by decide +kernel
theorem dX9_freely_243 : decode cX9_freely 243 = .ok (.getfield 47, 3) := by decide +kernel
theorem dX9_freely_246 : decode cX9_freely 246 = .ok (.iload 5, 2) := by decide +kernel
theorem dX9_freely_248 : decode cX9_freely 248 = .ok (.iaload, 1) := by decide +kernel
theorem dX9_freely_249 : decode cX9_freely 249 = .ok (.iastore, 1) := by decide +kernel
theorem dX9_freely_250 : decode cX9_freely 250 = .ok (.iinc 2 1, 3) := by decide +kernel
theorem dX9_freely_253 : decode cX9_freely 253 = .ok (.goto (-162), 3) := by decide +kernel
theorem dX9_freely_256 : decode cX9_freely 256 = .ok (.goto (-213), 3) := by decide +kernel
theorem dX9_freely_259 : decode cX9_freely 259 = .ok (.aload_n 0, 1) := by decide +kernel
theorem dX9_freely_260 : decode cX9_freely 260 = .ok (.getfield 47, 3) := by decide +kernel
theorem dX9_freely_263 : decode cX9_freely 263 = .ok (.iload_n 1, 1) := by decide +kernel
theorem dX9_freely_264 : decode cX9_freely 264 = .ok (.iaload, 1) := by decide +kernel
theorem dX9_freely_265 : decode cX9_freely 265 = .ok (.ireturn, 1) := by decide +kernel
set_option maxRecDepth 20000 in
theorem ggX9_price_X9_make : GoodIn wsX9_price wsX9_make := goodIn_r _ [8, 3, 9, 10, 11, 7, 12, 13, 14, 15, 16, 17, 18, 19, 20, 21, 22, 23, 24, 25, 26, 27, 28, 29, 30, 31, 32, 33, 34, 35, 36, 37, 38, 39, 40, 41, 42, 43, 44, 45, 46, 47, 48, 49, 50, 51, 52, 2, 53, 54, 55, 56, 57, 58, 59, 60, 61, 62, 63, 64, 65, 66, 67, 68, 69, 70, 71, 72, 73, 74, 75, 76, 77, 78, 79, 80, 96, 97, 98, 99, 100, 101, 102, 103, 104, 105, 106, 107, 108, 109, 110, 111, 112, 113, 114] (by decide +kernel) (by decide +kernel)
set_option maxRecDepth 20000 in
theorem gX9_price_X9_make : GoodIn wsX9_price (wsV RX9 151 RX9 yX9_make wsX9_make) := goodIn_app (goodIn_of _ (by decide +kernel)) ggX9_price_X9_make
set_option maxRecDepth 20000 in
theorem ggX9_price_X9_ticksOf : GoodIn wsX9_price wsX9_ticksOf := goodIn_r _ [84, 85, 86, 7, 87, 88, 89, 90, 91, 61, 92, 93, 94, 95, 96, 97, 98, 99, 100, 101, 102, 103, 104, 105, 106, 107, 108, 109, 110, 111, 112, 113, 114] (by decide +kernel) (by decide +kernel)
set_option maxRecDepth 20000 in
theorem gX9_price_X9_ticksOf : GoodIn wsX9_price (wsV RX9 177 RX9 yX9_ticksOf wsX9_ticksOf) := goodIn_app (goodIn_of _ (by decide +kernel)) ggX9_price_X9_ticksOf
theorem dX9_price_0 : decode cX9_price 0 = .ok (.aload_n 0, 1) := by decide +kernel
theorem dX9_price_1 : decode cX9_price 1 = .ok (.iconst 0, 1) := by decide +kernel
theorem dX9_price_2 : decode cX9_price 2 = .ok (.putfield 62, 3) := by decide +kernel
theorem dX9_price_5 : decode cX9_price 5 = .ok (.aload_n 0, 1) := by decide +kernel
theorem dX9_price_6 : decode cX9_price 6 = .ok (.iload_n 1, 1) := by decide +kernel
theorem dX9_price_7 : decode cX9_price 7 = .ok (.iload_n 2, 1) := by decide +kernel
theorem dX9_price_8 : decode cX9_price 8 = .ok (.iload_n 3, 1) := by decide +kernel
theorem dX9_price_9 : decode cX9_price 9 = .ok (.invokevirtual 151, 3) := by decide +kernel
theorem dX9_price_12 : decode cX9_price 12 = .ok (.istore 4, 2) := by decide +kernel
theorem dX9_price_14 : decode cX9_price 14 = .ok (.iload 4, 2) := by decide +kernel
theorem dX9_price_16 : decode cX9_price 16 = .ok (.ifCond .ge 8, 3) := by decide +kernel
theorem dX9_price_19 : decode cX9_price 19 = .ok (.iload 4, 2) := by decide +kernel
theorem dX9_price_21 : decode cX9_price 21 = .ok (.goto 15, 3) := by decide +kernel
theorem dX9_price_24 : decode cX9_price 24 = .ok (.aload_n 0, 1) := by decide +kernel
theorem dX9_price_25 : decode cX9_price 25 = .ok (.aload_n 0, 1) := by decide +kernel
theorem dX9_price_26 : decode cX9_price 26 = .ok (.getfield 33, 3) := by decide +kernel
theorem dX9_price_29 : decode cX9_price 29 = .ok (.aload_n 0, 1) := by decide +kernel
theorem dX9_price_30 : decode cX9_price 30 = .ok (.getfield 115, 3) := by decide +kernel
theorem dX9_price_33 : decode cX9_price 33 = .ok (.invokevirtual 177, 3) := by decide +kernel
theorem dX9_price_36 : decode cX9_price 36 = .ok (.ireturn, 1) := by decide +kernel
set_option maxRecDepth 20000 in
theorem ggX9_best_X9_isAsk : GoodIn wsX9_best wsX9_isAsk := goodIn_r _ [8, 9, 10, 7, 11, 12, 13, 14, 15, 16, 17, 18, 19, 20, 21, 96, 97, 98, 99, 100, 101, 102, 103, 104, 105, 106, 107, 108, 109, 110, 111, 112, 113, 114] (by decide +kernel) (by decide +kernel)
set_option maxRecDepth 20000 in
theorem gX9_best_X9_isAsk : GoodIn wsX9_best (wsV RX9 129 RX9 yX9_isAsk wsX9_isAsk) := goodIn_app (goodIn_of _ (by decide +kernel)) ggX9_best_X9_isAsk
set_option maxRecDepth 20000 in
theorem ggX9_best_X9_make : GoodIn wsX9_best wsX9_make := goodIn_r _ [25, 3, 26, 9, 10, 7, 11, 4, 5, 6, 8, 12, 13, 14, 15, 16, 17, 18, 19, 20, 21, 27, 28, 29, 30, 31, 32, 33, 34, 35, 36, 37, 38, 39, 40, 41, 42, 43, 44, 45, 46, 47, 48, 49, 50, 51, 52, 2, 53, 54, 55, 56, 57, 58, 59, 60, 61, 62, 63, 64, 65, 66, 67, 68, 69, 70, 71, 72, 73, 74, 75, 76, 77, 78, 79, 80, 96, 97, 98, 99, 100, 101, 102, 103, 104, 105, 106, 107, 108, 109, 110, 111, 112, 113, 114] (by decide +kernel) (by decide +kernel)
set_option maxRecDepth 20000 in
theorem gX9_best_X9_make : GoodIn wsX9_best (wsV RX9 151 RX9 yX9_make wsX9_make) := goodIn_app (goodIn_of _ (by decide +kernel)) ggX9_best_X9_make
set_option maxRecDepth 20000 in
theorem ggX9_best_X9_ticksOf : GoodIn wsX9_best wsX9_ticksOf := goodIn_r _ [84, 85, 86, 7, 87, 88, 89, 90, 91, 61, 92, 93, 94, 95, 96, 97, 98, 99, 100, 101, 102, 103, 104, 105, 106, 107, 108, 109, 110, 111, 112, 113, 114] (by decide +kernel) (by decide +kernel)
set_option maxRecDepth 20000 in
theorem gX9_best_X9_ticksOf : GoodIn wsX9_best (wsV RX9 177 RX9 yX9_ticksOf wsX9_ticksOf) := goodIn_app (goodIn_of _ (by decide +kernel)) ggX9_best_X9_ticksOf
theorem dX9_best_0 : decode cX9_best 0 = .ok (.aload_n 0, 1) := by decide +kernel
theorem dX9_best_1 : decode cX9_best 1 = .ok (.iconst 0, 1) := by decide +kernel
theorem dX9_best_2 : decode cX9_best 2 = .ok (.putfield 62, 3) := by decide +kernel
theorem dX9_best_5 : decode cX9_best 5 = .ok (.aload_n 0, 1) := by decide +kernel
theorem dX9_best_6 : decode cX9_best 6 = .ok (.iload_n 1, 1) := by decide +kernel
theorem dX9_best_7 : decode cX9_best 7 = .ok (.iload_n 2, 1) := by decide +kernel
theorem dX9_best_8 : decode cX9_best 8 = .ok (.invokevirtual 129, 3) := by decide +kernel
theorem dX9_best_11 : decode cX9_best 11 = .ok (.ifCond .ne 5, 3) := by decide +kernel
theorem dX9_best_14 : decode cX9_best 14 = .ok (.iconst (-1), 1) := by decide +kernel
theorem dX9_best_15 : decode cX9_best 15 = .ok (.ireturn, 1) := by decide +kernel
theorem dX9_best_16 : decode cX9_best 16 = .ok (.bipush (-2), 2) := by decide +kernel
theorem dX9_best_18 : decode cX9_best 18 = .ok (.istore_n 3, 1) := by decide +kernel
theorem dX9_best_19 : decode cX9_best 19 = .ok (.iconst 0, 1) := by decide +kernel
theorem dX9_best_20 : decode cX9_best 20 = .ok (.istore 4, 2) := by decide +kernel
theorem dX9_best_22 : decode cX9_best 22 = .ok (.iconst 0, 1) := by decide +kernel
theorem dX9_best_23 : decode cX9_best 23 = .ok (.istore 5, 2) := by decide +kernel
theorem dX9_best_25 : decode cX9_best 25 = .ok (.iload 5, 2) := by decide +kernel
theorem dX9_best_27 : decode cX9_best 27 = .ok (.iconst 4, 1) := by decide +kernel
theorem dX9_best_28 : decode cX9_best 28 = .ok (.if_icmp .ge 58, 3) := by decide +kernel
theorem dX9_best_31 : decode cX9_best 31 = .ok (.aload_n 0, 1) := by decide +kernel
theorem dX9_best_32 : decode cX9_best 32 = .ok (.iload 5, 2) := by decide +kernel
theorem dX9_best_34 : decode cX9_best 34 = .ok (.iload_n 1, 1) := by decide +kernel
theorem dX9_best_35 : decode cX9_best 35 = .ok (.iload_n 2, 1) := by decide +kernel
theorem dX9_best_36 : decode cX9_best 36 = .ok (.invokevirtual 151, 3) := by decide +kernel
theorem dX9_best_39 : decode cX9_best 39 = .ok (.ifCond .ge 6, 3) := by decide +kernel
theorem dX9_best_42 : decode cX9_best 42 = .ok (.goto 38, 3) := by decide +kernel
theorem dX9_best_45 : decode cX9_best 45 = .ok (.aload_n 0, 1) := by decide +kernel
theorem dX9_best_46 : decode cX9_best 46 = .ok (.aload_n 0, 1) := by decide +kernel
theorem dX9_best_47 : decode cX9_best 47 = .ok (.getfield 33, 3) := by decide +kernel
theorem dX9_best_50 : decode cX9_best 50 = .ok (.aload_n 0, 1) := by decide +kernel
theorem dX9_best_51 : decode cX9_best 51 = .ok (.getfield 115, 3) := by decide +kernel
theorem dX9_best_54 : decode cX9_best 54 = .ok (.invokevirtual 177, 3) := by decide +kernel
theorem dX9_best_57 : decode cX9_best 57 = .ok (.istore 6, 2) := by decide +kernel
theorem dX9_best_59 : decode cX9_best 59 = .ok (.iload_n 3, 1) := by decide +kernel
theorem dX9_best_60 : decode cX9_best 60 = .ok (.ifCond .lt 13, 3) := by decide +kernel
theorem dX9_best_63 : decode cX9_best 63 = .ok (.iload 6, 2) := by decide +kernel
theorem dX9_best_65 : decode cX9_best 65 = .ok (.iload 4, 2) := by decide +kernel
theorem dX9_best_67 : decode cX9_best 67 = .ok (.if_icmp .lt 6, 3) := by decide +kernel
theorem dX9_best_70 : decode cX9_best 70 = .ok (.goto 10, 3) := by decide +kernel
theorem dX9_best_73 : decode cX9_best 73 = .ok (.iload 5, 2) := by decide +kernel
theorem dX9_best_75 : decode cX9_best 75 = .ok (.istore_n 3, 1) := by decide +kernel
theorem dX9_best_76 : decode cX9_best 76 = .ok (.iload 6, 2) := by decide +kernel
theorem dX9_best_78 : decode cX9_best 78 = .ok (.istore 4, 2) := by decide +kernel
theorem dX9_best_80 : decode cX9_best 80 = .ok (.iinc 5 1, 3) := by decide +kernel
theorem dX9_best_83 : decode cX9_best 83 = .ok (.goto (-58), 3) := by decide +kernel
theorem dX9_best_86 : decode cX9_best 86 = .ok (.iload_n 3, 1) := by decide +kernel
theorem dX9_best_87 : decode cX9_best 87 = .ok (.ireturn, 1) := by decide +kernel
set_option maxRecDepth 20000 in
theorem ggX9_sendFrom_X9_sendFrom : GoodIn wsX9_sendFrom wsX9_sendFrom := goodIn_r _ [0, 1, 2, 3, 4, 5, 6, 7, 8, 9, 10, 11, 12, 13, 14, 15, 16, 17, 18, 19, 20, 21, 22, 23, 24, 25, 26, 27, 28, 29, 30, 31, 32, 33, 34] (by decide +kernel) (by decide +kernel)
set_option maxRecDepth 20000 in
theorem gX9_sendFrom_X9_sendFrom : GoodIn wsX9_sendFrom (wsV RX9 180 RX9 yX9_sendFrom wsX9_sendFrom) := goodIn_app (goodIn_of _ (by decide +kernel)) ggX9_sendFrom_X9_sendFrom
set_option maxRecDepth 20000 in
theorem ggX9_sendFrom_X9_hostOf : GoodIn wsX9_sendFrom wsX9_hostOf := goodIn_r _ [9, 10, 16, 17, 18, 19, 20, 21, 22, 23, 24, 25, 26, 27, 28, 29, 30, 31, 32, 33, 34] (by decide +kernel) (by decide +kernel)
set_option maxRecDepth 20000 in
theorem gX9_sendFrom_X9_hostOf : GoodIn wsX9_sendFrom (wsV RX9 108 RX9 yX9_hostOf wsX9_hostOf) := goodIn_app (goodIn_of _ (by decide +kernel)) ggX9_sendFrom_X9_hostOf
set_option maxRecDepth 20000 in
theorem ggX9_sendFrom_X9_areJoined : GoodIn wsX9_sendFrom wsX9_areJoined := goodIn_r _ [14, 15, 16, 17, 18, 19, 20, 21, 22, 23, 24, 25, 26, 27, 28, 29, 30, 31, 32, 33, 34] (by decide +kernel) (by decide +kernel)
set_option maxRecDepth 20000 in
theorem gX9_sendFrom_X9_areJoined : GoodIn wsX9_sendFrom (wsV RX9 80 RX9 yX9_areJoined wsX9_areJoined) := goodIn_app (goodIn_of _ (by decide +kernel)) ggX9_sendFrom_X9_areJoined
theorem dX9_sendFrom_0 : decode cX9_sendFrom 0 = .ok (.iload_n 3, 1) := by decide +kernel
theorem dX9_sendFrom_1 : decode cX9_sendFrom 1 = .ok (.iload 4, 2) := by decide +kernel
theorem dX9_sendFrom_3 : decode cX9_sendFrom 3 = .ok (.if_icmp .ne 11, 3) := by decide +kernel
theorem dX9_sendFrom_6 : decode cX9_sendFrom 6 = .ok (.aload_n 0, 1) := by decide +kernel
theorem dX9_sendFrom_7 : decode cX9_sendFrom 7 = .ok (.getfield 56, 3) := by decide +kernel
theorem dX9_sendFrom_10 : decode cX9_sendFrom 10 = .ok (.iload_n 2, 1) := by decide +kernel
theorem dX9_sendFrom_11 : decode cX9_sendFrom 11 = .ok (.iconst 1, 1) := by decide +kernel
theorem dX9_sendFrom_12 : decode cX9_sendFrom 12 = .ok (.bastore, 1) := by decide +kernel
theorem dX9_sendFrom_13 : decode cX9_sendFrom 13 = .ok (.return_, 1) := by decide +kernel
theorem dX9_sendFrom_14 : decode cX9_sendFrom 14 = .ok (.aload_n 0, 1) := by decide +kernel
theorem dX9_sendFrom_15 : decode cX9_sendFrom 15 = .ok (.iload_n 1, 1) := by decide +kernel
theorem dX9_sendFrom_16 : decode cX9_sendFrom 16 = .ok (.iload_n 2, 1) := by decide +kernel
theorem dX9_sendFrom_17 : decode cX9_sendFrom 17 = .ok (.iload_n 3, 1) := by decide +kernel
theorem dX9_sendFrom_18 : decode cX9_sendFrom 18 = .ok (.iconst 1, 1) := by decide +kernel
theorem dX9_sendFrom_19 : decode cX9_sendFrom 19 = .ok (.iadd, 1) := by decide +kernel
theorem dX9_sendFrom_20 : decode cX9_sendFrom 20 = .ok (.iload 4, 2) := by decide +kernel
theorem dX9_sendFrom_22 : decode cX9_sendFrom 22 = .ok (.invokevirtual 180, 3) := by decide +kernel
theorem dX9_sendFrom_25 : decode cX9_sendFrom 25 = .ok (.iload_n 1, 1) := by decide +kernel
theorem dX9_sendFrom_26 : decode cX9_sendFrom 26 = .ok (.iload_n 3, 1) := by decide +kernel
theorem dX9_sendFrom_27 : decode cX9_sendFrom 27 = .ok (.ishr, 1) := by decide +kernel
theorem dX9_sendFrom_28 : decode cX9_sendFrom 28 = .ok (.iconst 1, 1) := by decide +kernel
theorem dX9_sendFrom_29 : decode cX9_sendFrom 29 = .ok (.iand, 1) := by decide +kernel
theorem dX9_sendFrom_30 : decode cX9_sendFrom 30 = .ok (.ifCond .ne 4, 3) := by decide +kernel
theorem dX9_sendFrom_33 : decode cX9_sendFrom 33 = .ok (.return_, 1) := by decide +kernel
theorem dX9_sendFrom_34 : decode cX9_sendFrom 34 = .ok (.iconst 0, 1) := by decide +kernel
theorem dX9_sendFrom_35 : decode cX9_sendFrom 35 = .ok (.istore 5, 2) := by decide +kernel
theorem dX9_sendFrom_37 : decode cX9_sendFrom 37 = .ok (.iload 5, 2) := by decide +kernel
theorem dX9_sendFrom_39 : decode cX9_sendFrom 39 = .ok (.iload 4, 2) := by decide +kernel
theorem dX9_sendFrom_41 : decode cX9_sendFrom 41 = .ok (.if_icmp .ge 52, 3) := by decide +kernel
theorem dX9_sendFrom_44 : decode cX9_sendFrom 44 = .ok (.iload_n 2, 1) := by decide +kernel
theorem dX9_sendFrom_45 : decode cX9_sendFrom 45 = .ok (.iload 5, 2) := by decide +kernel
theorem dX9_sendFrom_47 : decode cX9_sendFrom 47 = .ok (.ishr, 1) := by decide +kernel
theorem dX9_sendFrom_48 : decode cX9_sendFrom 48 = .ok (.iconst 1, 1) := by decide +kernel
theorem dX9_sendFrom_49 : decode cX9_sendFrom 49 = .ok (.iand, 1) := by decide +kernel
theorem dX9_sendFrom_50 : decode cX9_sendFrom 50 = .ok (.ifCond .ne 37, 3) := by decide +kernel
theorem dX9_sendFrom_53 : decode cX9_sendFrom 53 = .ok (.aload_n 0, 1) := by decide +kernel
theorem dX9_sendFrom_54 : decode cX9_sendFrom 54 = .ok (.aload_n 0, 1) := by decide +kernel
theorem dX9_sendFrom_55 : decode cX9_sendFrom 55 = .ok (.iload_n 3, 1) := by decide +kernel
theorem dX9_sendFrom_56 : decode cX9_sendFrom 56 = .ok (.invokevirtual 108, 3) := by decide +kernel
theorem dX9_sendFrom_59 : decode cX9_sendFrom 59 = .ok (.aload_n 0, 1) := by decide +kernel
theorem dX9_sendFrom_60 : decode cX9_sendFrom 60 = .ok (.iload 5, 2) := by decide +kernel
theorem dX9_sendFrom_62 : decode cX9_sendFrom 62 = .ok (.invokevirtual 108, 3) := by decide +kernel
theorem dX9_sendFrom_65 : decode cX9_sendFrom 65 = .ok (.invokevirtual 80, 3) := by decide +kernel
theorem dX9_sendFrom_68 : decode cX9_sendFrom 68 = .ok (.ifCond .eq 19, 3) := by decide +kernel
theorem dX9_sendFrom_71 : decode cX9_sendFrom 71 = .ok (.aload_n 0, 1) := by decide +kernel
theorem dX9_sendFrom_72 : decode cX9_sendFrom 72 = .ok (.iload_n 1, 1) := by decide +kernel
theorem dX9_sendFrom_73 : decode cX9_sendFrom 73 = .ok (.iload_n 2, 1) := by decide +kernel
theorem dX9_sendFrom_74 : decode cX9_sendFrom 74 = .ok (.iconst 1, 1) := by decide +kernel
theorem dX9_sendFrom_75 : decode cX9_sendFrom 75 = .ok (.iload 5, 2) := by decide +kernel
theorem dX9_sendFrom_77 : decode cX9_sendFrom 77 = .ok (.ishl, 1) := by decide +kernel
theorem dX9_sendFrom_78 : decode cX9_sendFrom 78 = .ok (.ior, 1) := by decide +kernel
theorem dX9_sendFrom_79 : decode cX9_sendFrom 79 = .ok (.iload_n 3, 1) := by decide +kernel
theorem dX9_sendFrom_80 : decode cX9_sendFrom 80 = .ok (.iconst 1, 1) := by decide +kernel
theorem dX9_sendFrom_81 : decode cX9_sendFrom 81 = .ok (.iadd, 1) := by decide +kernel
theorem dX9_sendFrom_82 : decode cX9_sendFrom 82 = .ok (.iload 4, 2) := by decide +kernel
theorem dX9_sendFrom_84 : decode cX9_sendFrom 84 = .ok (.invokevirtual 180, 3) := by decide +kernel
theorem dX9_sendFrom_87 : decode cX9_sendFrom 87 = .ok (.iinc 5 1, 3) := by decide +kernel
theorem dX9_sendFrom_90 : decode cX9_sendFrom 90 = .ok (.goto (-53), 3) := by decide +kernel
theorem dX9_sendFrom_93 : decode cX9_sendFrom 93 = .ok (.return_, 1) := by decide +kernel
set_option maxRecDepth 20000 in
theorem ggX9_fewest_X9_liveMany : GoodIn wsX9_fewest wsX9_liveMany := goodIn_r _ [8, 9, 10, 39, 40, 41, 42, 43, 44, 45, 46, 47, 48, 49, 50, 51, 52, 53, 54, 55, 56, 57] (by decide +kernel) (by decide +kernel)
set_option maxRecDepth 20000 in
theorem gX9_fewest_X9_liveMany : GoodIn wsX9_fewest (wsV RX9 97 RX9 yX9_liveMany wsX9_liveMany) := goodIn_app (goodIn_of _ (by decide +kernel)) ggX9_fewest_X9_liveMany
set_option maxRecDepth 20000 in
theorem ggX9_fewest_X9_isLive : GoodIn wsX9_fewest wsX9_isLive := goodIn_r _ [14, 10, 15, 16, 17, 7, 18, 9, 19, 20, 21, 39, 40, 41, 42, 43, 44, 45, 46, 47, 48, 49, 50, 51, 52, 53, 54, 55, 56, 57] (by decide +kernel) (by decide +kernel)
set_option maxRecDepth 20000 in
theorem gX9_fewest_X9_isLive : GoodIn wsX9_fewest (wsV RX9 94 RX9 yX9_isLive wsX9_isLive) := goodIn_app (goodIn_of _ (by decide +kernel)) ggX9_fewest_X9_isLive
set_option maxRecDepth 20000 in
theorem ggX9_fewest_X9_rankOf : GoodIn wsX9_fewest wsX9_rankOf := goodIn_r _ [25, 10, 39, 40, 41, 42, 43, 44, 45, 46, 47, 48, 49, 50, 51, 52, 53, 54, 55, 56, 57] (by decide +kernel) (by decide +kernel)
set_option maxRecDepth 20000 in
theorem gX9_fewest_X9_rankOf : GoodIn wsX9_fewest (wsV RX9 135 RX9 yX9_rankOf wsX9_rankOf) := goodIn_app (goodIn_of _ (by decide +kernel)) ggX9_fewest_X9_rankOf
set_option maxRecDepth 20000 in
theorem ggX9_fewest_X9_sendFrom : GoodIn wsX9_fewest wsX9_sendFrom := goodIn_r _ [29, 3, 26, 27, 28, 7, 30, 31, 32, 33, 10, 34, 35, 36, 37, 38, 39, 40, 41, 42, 43, 44, 45, 46, 47, 48, 49, 50, 51, 52, 53, 54, 55, 56, 57] (by decide +kernel) (by decide +kernel)
set_option maxRecDepth 20000 in
theorem gX9_fewest_X9_sendFrom : GoodIn wsX9_fewest (wsV RX9 180 RX9 yX9_sendFrom wsX9_sendFrom) := goodIn_app (goodIn_of _ (by decide +kernel)) ggX9_fewest_X9_sendFrom
theorem dX9_fewest_0 : decode cX9_fewest 0 = .ok (.aload_n 0, 1) := by decide +kernel
theorem dX9_fewest_1 : decode cX9_fewest 1 = .ok (.iconst 0, 1) := by decide +kernel
theorem dX9_fewest_2 : decode cX9_fewest 2 = .ok (.putfield 62, 3) := by decide +kernel
theorem dX9_fewest_5 : decode cX9_fewest 5 = .ok (.aload_n 0, 1) := by decide +kernel
theorem dX9_fewest_6 : decode cX9_fewest 6 = .ok (.invokevirtual 97, 3) := by decide +kernel
theorem dX9_fewest_9 : decode cX9_fewest 9 = .ok (.istore_n 2, 1) := by decide +kernel
theorem dX9_fewest_10 : decode cX9_fewest 10 = .ok (.aload_n 0, 1) := by decide +kernel
theorem dX9_fewest_11 : decode cX9_fewest 11 = .ok (.iload_n 1, 1) := by decide +kernel
theorem dX9_fewest_12 : decode cX9_fewest 12 = .ok (.invokevirtual 94, 3) := by decide +kernel
theorem dX9_fewest_15 : decode cX9_fewest 15 = .ok (.ifCond .eq 9, 3) := by decide +kernel
theorem dX9_fewest_18 : decode cX9_fewest 18 = .ok (.iload_n 2, 1) := by decide +kernel
theorem dX9_fewest_19 : decode cX9_fewest 19 = .ok (.bipush 8, 2) := by decide +kernel
theorem dX9_fewest_21 : decode cX9_fewest 21 = .ok (.if_icmp .le 5, 3) := by decide +kernel
theorem dX9_fewest_24 : decode cX9_fewest 24 = .ok (.iconst (-1), 1) := by decide +kernel
theorem dX9_fewest_25 : decode cX9_fewest 25 = .ok (.ireturn, 1) := by decide +kernel
theorem dX9_fewest_26 : decode cX9_fewest 26 = .ok (.iconst 0, 1) := by decide +kernel
theorem dX9_fewest_27 : decode cX9_fewest 27 = .ok (.istore_n 3, 1) := by decide +kernel
theorem dX9_fewest_28 : decode cX9_fewest 28 = .ok (.iload_n 3, 1) := by decide +kernel
theorem dX9_fewest_29 : decode cX9_fewest 29 = .ok (.sipush 256, 3) := by decide +kernel
theorem dX9_fewest_32 : decode cX9_fewest 32 = .ok (.if_icmp .ge 16, 3) := by decide +kernel
theorem dX9_fewest_35 : decode cX9_fewest 35 = .ok (.aload_n 0, 1) := by decide +kernel
theorem dX9_fewest_36 : decode cX9_fewest 36 = .ok (.getfield 53, 3) := by decide +kernel
theorem dX9_fewest_39 : decode cX9_fewest 39 = .ok (.iload_n 3, 1) := by decide +kernel
theorem dX9_fewest_40 : decode cX9_fewest 40 = .ok (.iconst 0, 1) := by decide +kernel
theorem dX9_fewest_41 : decode cX9_fewest 41 = .ok (.bastore, 1) := by decide +kernel
theorem dX9_fewest_42 : decode cX9_fewest 42 = .ok (.iinc 3 1, 3) := by decide +kernel
theorem dX9_fewest_45 : decode cX9_fewest 45 = .ok (.goto (-17), 3) := by decide +kernel
theorem dX9_fewest_48 : decode cX9_fewest 48 = .ok (.aload_n 0, 1) := by decide +kernel
theorem dX9_fewest_49 : decode cX9_fewest 49 = .ok (.getfield 53, 3) := by decide +kernel
theorem dX9_fewest_52 : decode cX9_fewest 52 = .ok (.iconst 1, 1) := by decide +kernel
theorem dX9_fewest_53 : decode cX9_fewest 53 = .ok (.aload_n 0, 1) := by decide +kernel
theorem dX9_fewest_54 : decode cX9_fewest 54 = .ok (.iload_n 1, 1) := by decide +kernel
theorem dX9_fewest_55 : decode cX9_fewest 55 = .ok (.invokevirtual 135, 3) := by decide +kernel
theorem dX9_fewest_58 : decode cX9_fewest 58 = .ok (.ishl, 1) := by decide +kernel
theorem dX9_fewest_59 : decode cX9_fewest 59 = .ok (.iconst 1, 1) := by decide +kernel
theorem dX9_fewest_60 : decode cX9_fewest 60 = .ok (.bastore, 1) := by decide +kernel
theorem dX9_fewest_61 : decode cX9_fewest 61 = .ok (.iconst 0, 1) := by decide +kernel
theorem dX9_fewest_62 : decode cX9_fewest 62 = .ok (.istore_n 3, 1) := by decide +kernel
theorem dX9_fewest_63 : decode cX9_fewest 63 = .ok (.iload_n 3, 1) := by decide +kernel
theorem dX9_fewest_64 : decode cX9_fewest 64 = .ok (.iload_n 2, 1) := by decide +kernel
theorem dX9_fewest_65 : decode cX9_fewest 65 = .ok (.if_icmp .ge 117, 3) := by decide +kernel
theorem dX9_fewest_68 : decode cX9_fewest 68 = .ok (.aload_n 0, 1) := by decide +kernel
theorem dX9_fewest_69 : decode cX9_fewest 69 = .ok (.getfield 53, 3) := by decide +kernel
theorem dX9_fewest_72 : decode cX9_fewest 72 = .ok (.iconst 1, 1) := by decide +kernel
theorem dX9_fewest_73 : decode cX9_fewest 73 = .ok (.iload_n 2, 1) := by decide +kernel
theorem dX9_fewest_74 : decode cX9_fewest 74 = .ok (.ishl, 1) := by decide +kernel
theorem dX9_fewest_75 : decode cX9_fewest 75 = .ok (.iconst 1, 1) := by decide +kernel
theorem dX9_fewest_76 : decode cX9_fewest 76 = .ok (.isub, 1) := by decide +kernel
theorem dX9_fewest_77 : decode cX9_fewest 77 = .ok (.baload, 1) := by decide +kernel
theorem dX9_fewest_78 : decode cX9_fewest 78 = .ok (.ifCond .eq 5, 3) := by decide +kernel
theorem dX9_fewest_81 : decode cX9_fewest 81 = .ok (.iload_n 3, 1) := by decide +kernel
theorem dX9_fewest_82 : decode cX9_fewest 82 = .ok (.ireturn, 1) := by decide +kernel
theorem dX9_fewest_83 : decode cX9_fewest 83 = .ok (.iconst 0, 1) := by decide +kernel
theorem dX9_fewest_84 : decode cX9_fewest 84 = .ok (.istore 4, 2) := by decide +kernel
theorem dX9_fewest_86 : decode cX9_fewest 86 = .ok (.iload 4, 2) := by decide +kernel
theorem dX9_fewest_88 : decode cX9_fewest 88 = .ok (.sipush 256, 3) := by decide +kernel
theorem dX9_fewest_91 : decode cX9_fewest 91 = .ok (.if_icmp .ge 17, 3) := by decide +kernel
theorem dX9_fewest_94 : decode cX9_fewest 94 = .ok (.aload_n 0, 1) := by decide +kernel
theorem dX9_fewest_95 : decode cX9_fewest 95 = .ok (.getfield 56, 3) := by decide +kernel
theorem dX9_fewest_98 : decode cX9_fewest 98 = .ok (.iload 4, 2) := by decide +kernel
theorem dX9_fewest_100 : decode cX9_fewest 100 = .ok (.iconst 0, 1) := by decide +kernel
theorem dX9_fewest_101 : decode cX9_fewest 101 = .ok (.bastore, 1) := by decide +kernel
theorem dX9_fewest_102 : decode cX9_fewest 102 = .ok (.iinc 4 1, 3) := by decide +kernel
theorem dX9_fewest_105 : decode cX9_fewest 105 = .ok (.goto (-19), 3) := by decide +kernel
theorem dX9_fewest_108 : decode cX9_fewest 108 = .ok (.iconst 0, 1) := by decide +kernel
theorem dX9_fewest_109 : decode cX9_fewest 109 = .ok (.istore 4, 2) := by decide +kernel
theorem dX9_fewest_111 : decode cX9_fewest 111 = .ok (.iload 4, 2) := by decide +kernel
theorem dX9_fewest_113 : decode cX9_fewest 113 = .ok (.iconst 1, 1) := by decide +kernel
theorem dX9_fewest_114 : decode cX9_fewest 114 = .ok (.iload_n 2, 1) := by decide +kernel
theorem dX9_fewest_115 : decode cX9_fewest 115 = .ok (.ishl, 1) := by decide +kernel
theorem dX9_fewest_116 : decode cX9_fewest 116 = .ok (.if_icmp .ge 29, 3) := by decide +kernel
theorem dX9_fewest_119 : decode cX9_fewest 119 = .ok (.aload_n 0, 1) := by decide +kernel
theorem dX9_fewest_120 : decode cX9_fewest 120 = .ok (.getfield 53, 3) := by decide +kernel
theorem dX9_fewest_123 : decode cX9_fewest 123 = .ok (.iload 4, 2) := by decide +kernel
theorem dX9_fewest_125 : decode cX9_fewest 125 = .ok (.baload, 1) := by decide +kernel
theorem dX9_fewest_126 : decode cX9_fewest 126 = .ok (.ifCond .eq 13, 3) := by decide +kernel
theorem dX9_fewest_129 : decode cX9_fewest 129 = .ok (.aload_n 0, 1) := by decide +kernel
theorem dX9_fewest_130 : decode cX9_fewest 130 = .ok (.iload 4, 2) := by decide +kernel
theorem dX9_fewest_132 : decode cX9_fewest 132 = .ok (.iload 4, 2) := by decide +kernel
theorem dX9_fewest_134 : decode cX9_fewest 134 = .ok (.iconst 0, 1) := by decide +kernel
theorem dX9_fewest_135 : decode cX9_fewest 135 = .ok (.iload_n 2, 1) := by decide +kernel
theorem dX9_fewest_136 : decode cX9_fewest 136 = .ok (.invokevirtual 180, 3) := by decide +kernel
theorem dX9_fewest_139 : decode cX9_fewest 139 = .ok (.iinc 4 1, 3) := by decide +kernel
theorem dX9_fewest_142 : decode cX9_fewest 142 = .ok (.goto (-31), 3) := by decide +kernel
theorem dX9_fewest_145 : decode cX9_fewest 145 = .ok (.iconst 0, 1) := by decide +kernel
theorem dX9_fewest_146 : decode cX9_fewest 146 = .ok (.istore 4, 2) := by decide +kernel
theorem dX9_fewest_148 : decode cX9_fewest 148 = .ok (.iload 4, 2) := by decide +kernel
theorem dX9_fewest_150 : decode cX9_fewest 150 = .ok (.sipush 256, 3) := by decide +kernel
theorem dX9_fewest_153 : decode cX9_fewest 153 = .ok (.if_icmp .ge 23, 3) := by decide +kernel
theorem dX9_fewest_156 : decode cX9_fewest 156 = .ok (.aload_n 0, 1) := by decide +kernel
theorem dX9_fewest_157 : decode cX9_fewest 157 = .ok (.getfield 53, 3) := by decide +kernel
theorem dX9_fewest_160 : decode cX9_fewest 160 = .ok (.iload 4, 2) := by decide +kernel
theorem dX9_fewest_162 : decode cX9_fewest 162 = .ok (.aload_n 0, 1) := by decide +kernel
theorem dX9_fewest_163 : decode cX9_fewest 163 = .ok (.getfield 56, 3) := by decide +kernel
theorem dX9_fewest_166 : decode cX9_fewest 166 = .ok (.iload 4, 2) := by decide +kernel
theorem dX9_fewest_168 : decode cX9_fewest 168 = .ok (.baload, 1) := by decide +kernel
theorem dX9_fewest_169 : decode cX9_fewest 169 = .ok (.bastore, 1) := by decide +kernel
theorem dX9_fewest_170 : decode cX9_fewest 170 = .ok (.iinc 4 1, 3) := by decide +kernel
theorem dX9_fewest_173 : decode cX9_fewest 173 = .ok (.goto (-25), 3) := by decide +kernel
theorem dX9_fewest_176 : decode cX9_fewest 176 = .ok (.iinc 3 1, 3) := by decide +kernel
theorem dX9_fewest_179 : decode cX9_fewest 179 = .ok (.goto (-116), 3) := by decide +kernel
theorem dX9_fewest_182 : decode cX9_fewest 182 = .ok (.iconst (-1), 1) := by decide +kernel
theorem dX9_fewest_183 : decode cX9_fewest 183 = .ok (.ireturn, 1) := by decide +kernel
