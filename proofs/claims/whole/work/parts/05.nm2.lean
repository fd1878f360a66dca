set_option maxRecDepth 20000 in
theorem ggX8_init_X3_init : GoodIn wsX8_init wsX3_init := goodIn_r _ [35, 36, 2, 3, 37, 38, 39, 40, 41, 42, 43, 44, 45, 46, 47, 6, 48, 49, 50, 51, 52, 53, 54, 55, 56, 57, 58, 59, 93, 94, 95, 96, 97, 98, 99, 100, 101] (by decide +kernel) (by decide +kernel)
set_option maxRecDepth 20000 in
theorem gX8_init_X3_init : GoodIn wsX8_init (wsX3_init) := ggX8_init_X3_init
set_option maxRecDepth 20000 in
theorem ggX8_init_X2_init : GoodIn wsX8_init wsX2_init := goodIn_r _ [61, 39, 62, 63, 64, 65, 66, 67, 2, 3, 110, 111] (by decide +kernel) (by decide +kernel)
set_option maxRecDepth 20000 in
theorem gX8_init_X2_init_n18 : GoodIn wsX8_init (wsX2_init) := ggX8_init_X2_init
set_option maxRecDepth 20000 in
theorem ggX8_init_X6_init : GoodIn wsX8_init wsX6_init := goodIn_r _ [69, 70, 71, 72, 73, 74, 64, 65, 66, 67, 2, 3, 112, 113, 114, 115, 116] (by decide +kernel) (by decide +kernel)
set_option maxRecDepth 20000 in
theorem gX8_init_X6_init_n25 : GoodIn wsX8_init (wsX6_init) := ggX8_init_X6_init
set_option maxRecDepth 20000 in
theorem ggX8_init_X0_init : GoodIn wsX8_init wsX0_init := goodIn_r _ [76, 77, 2, 3, 39, 78, 79, 117, 118] (by decide +kernel) (by decide +kernel)
set_option maxRecDepth 20000 in
theorem gX8_init_X0_init_n32 : GoodIn wsX8_init (wsX0_init) := ggX8_init_X0_init
set_option maxRecDepth 20000 in
theorem ggX8_init_X7_init : GoodIn wsX8_init wsX7_init := goodIn_r _ [81, 82, 2, 3] (by decide +kernel) (by decide +kernel)
set_option maxRecDepth 20000 in
theorem gX8_init_X7_init_n39 : GoodIn wsX8_init (wsX7_init) := ggX8_init_X7_init
set_option maxRecDepth 20000 in
theorem ggX8_init_X5_init : GoodIn wsX8_init wsX5_init := goodIn_r _ [84, 85, 2, 3, 39, 86, 87, 37, 88, 125, 126, 127, 128, 129] (by decide +kernel) (by decide +kernel)
set_option maxRecDepth 20000 in
theorem gX8_init_X5_init_n46 : GoodIn wsX8_init (wsX5_init) := ggX8_init_X5_init
set_option maxRecDepth 20000 in
theorem ggX8_init_X4_init : GoodIn wsX8_init wsX4_init := goodIn_r _ [90, 91, 2, 3, 39, 92, 130, 131] (by decide +kernel) (by decide +kernel)
set_option maxRecDepth 20000 in
theorem gX8_init_X4_init_n53 : GoodIn wsX8_init (wsX4_init) := ggX8_init_X4_init
theorem dX8_init_0 : decode cX8_init 0 = .ok (.aload_n 0, 1) := by decide +kernel
theorem dX8_init_1 : decode cX8_init 1 = .ok (.invokespecial 3, 3) := by decide +kernel
theorem dX8_init_4 : decode cX8_init 4 = .ok (.aload_n 0, 1) := by decide +kernel
theorem dX8_init_5 : decode cX8_init 5 = .ok (.new 9, 3) := by decide +kernel
theorem dX8_init_8 : decode cX8_init 8 = .ok (.dup, 1) := by decide +kernel
theorem dX8_init_9 : decode cX8_init 9 = .ok (.invokespecial 11, 3) := by decide +kernel
theorem dX8_init_12 : decode cX8_init 12 = .ok (.putfield 12, 3) := by decide +kernel
theorem dX8_init_15 : decode cX8_init 15 = .ok (.aload_n 0, 1) := by decide +kernel
theorem dX8_init_16 : decode cX8_init 16 = .ok (.new 16, 3) := by decide +kernel
theorem dX8_init_19 : decode cX8_init 19 = .ok (.dup, 1) := by decide +kernel
theorem dX8_init_20 : decode cX8_init 20 = .ok (.invokespecial 18, 3) := by decide +kernel
theorem dX8_init_23 : decode cX8_init 23 = .ok (.putfield 19, 3) := by decide +kernel
theorem dX8_init_26 : decode cX8_init 26 = .ok (.aload_n 0, 1) := by decide +kernel
theorem dX8_init_27 : decode cX8_init 27 = .ok (.new 23, 3) := by decide +kernel
theorem dX8_init_30 : decode cX8_init 30 = .ok (.dup, 1) := by decide +kernel
theorem dX8_init_31 : decode cX8_init 31 = .ok (.invokespecial 25, 3) := by decide +kernel
theorem dX8_init_34 : decode cX8_init 34 = .ok (.putfield 26, 3) := by decide +kernel
theorem dX8_init_37 : decode cX8_init 37 = .ok (.aload_n 0, 1) := by decide +kernel
theorem dX8_init_38 : decode cX8_init 38 = .ok (.new 30, 3) := by decide +kernel
theorem dX8_init_41 : decode cX8_init 41 = .ok (.dup, 1) := by decide +kernel
theorem dX8_init_42 : decode cX8_init 42 = .ok (.invokespecial 32, 3) := by decide +kernel
theorem dX8_init_45 : decode cX8_init 45 = .ok (.putfield 33, 3) := by decide +kernel
theorem dX8_init_48 : decode cX8_init 48 = .ok (.aload_n 0, 1) := by decide +kernel
theorem dX8_init_49 : decode cX8_init 49 = .ok (.new 37, 3) := by decide +kernel
theorem dX8_init_52 : decode cX8_init 52 = .ok (.dup, 1) := by decide +kernel
theorem dX8_init_53 : decode cX8_init 53 = .ok (.invokespecial 39, 3) := by decide +kernel
theorem dX8_init_56 : decode cX8_init 56 = .ok (.putfield 40, 3) := by decide +kernel
theorem dX8_init_59 : decode cX8_init 59 = .ok (.aload_n 0, 1) := by decide +kernel
theorem dX8_init_60 : decode cX8_init 60 = .ok (.new 44, 3) := by decide +kernel
theorem dX8_init_63 : decode cX8_init 63 = .ok (.dup, 1) := by decide +kernel
theorem dX8_init_64 : decode cX8_init 64 = .ok (.invokespecial 46, 3) := by decide +kernel
theorem dX8_init_67 : decode cX8_init 67 = .ok (.putfield 47, 3) := by decide +kernel
theorem dX8_init_70 : decode cX8_init 70 = .ok (.aload_n 0, 1) := by decide +kernel
theorem dX8_init_71 : decode cX8_init 71 = .ok (.new 51, 3) := by decide +kernel
theorem dX8_init_74 : decode cX8_init 74 = .ok (.dup, 1) := by decide +kernel
theorem dX8_init_75 : decode cX8_init 75 = .ok (.invokespecial 53, 3) := by decide +kernel
theorem dX8_init_78 : decode cX8_init 78 = .ok (.putfield 54, 3) := by decide +kernel
theorem dX8_init_81 : decode cX8_init 81 = .ok (.aload_n 0, 1) := by decide +kernel
theorem dX8_init_82 : decode cX8_init 82 = .ok (.new 51, 3) := by decide +kernel
theorem dX8_init_85 : decode cX8_init 85 = .ok (.dup, 1) := by decide +kernel
theorem dX8_init_86 : decode cX8_init 86 = .ok (.invokespecial 53, 3) := by decide +kernel
theorem dX8_init_89 : decode cX8_init 89 = .ok (.putfield 58, 3) := by decide +kernel
theorem dX8_init_92 : decode cX8_init 92 = .ok (.return_, 1) := by decide +kernel
set_option maxRecDepth 20000 in
theorem ggX8_hosts_X3_begin : GoodIn wsX8_hosts wsX3_begin := goodIn_r _ [8, 9, 10, 11, 12, 13, 14, 15, 16, 17, 18, 19, 20, 7, 21, 22, 23, 24, 46, 47, 48, 49, 50, 51, 52, 53, 54] (by decide +kernel) (by decide +kernel)
set_option maxRecDepth 20000 in
theorem gX8_hosts_X3_begin : GoodIn wsX8_hosts (wsV RX8 61 RX3 yX3_begin wsX3_begin) := goodIn_app (goodIn_of _ (by decide +kernel)) ggX8_hosts_X3_begin
set_option maxRecDepth 20000 in
theorem ggX8_hosts_X2_zero : GoodIn wsX8_hosts wsX2_zero := goodIn_r _ [29, 30, 31, 15, 16, 17, 55, 56] (by decide +kernel) (by decide +kernel)
set_option maxRecDepth 20000 in
theorem gX8_hosts_X2_zero : GoodIn wsX8_hosts (wsV RX8 65 RX2 yX2_zero wsX2_zero) := goodIn_app (goodIn_of _ (by decide +kernel)) ggX8_hosts_X2_zero
set_option maxRecDepth 20000 in
theorem ggX8_hosts_X4_empty : GoodIn wsX8_hosts wsX4_empty := goodIn_r _ [36, 37, 57, 58] (by decide +kernel) (by decide +kernel)
set_option maxRecDepth 20000 in
theorem gX8_hosts_X4_empty : GoodIn wsX8_hosts (wsV RX8 68 RX4 yX4_empty wsX4_empty) := goodIn_app (goodIn_of _ (by decide +kernel)) ggX8_hosts_X4_empty
theorem dX8_hosts_0 : decode cX8_hosts 0 = .ok (.iload_n 1, 1) := by decide +kernel
theorem dX8_hosts_1 : decode cX8_hosts 1 = .ok (.iconst 2, 1) := by decide +kernel
theorem dX8_hosts_2 : decode cX8_hosts 2 = .ok (.if_icmp .lt 9, 3) := by decide +kernel
theorem dX8_hosts_5 : decode cX8_hosts 5 = .ok (.iload_n 1, 1) := by decide +kernel
theorem dX8_hosts_6 : decode cX8_hosts 6 = .ok (.bipush 16, 2) := by decide +kernel
theorem dX8_hosts_8 : decode cX8_hosts 8 = .ok (.if_icmp .le 5, 3) := by decide +kernel
theorem dX8_hosts_11 : decode cX8_hosts 11 = .ok (.iconst 0, 1) := by decide +kernel
theorem dX8_hosts_12 : decode cX8_hosts 12 = .ok (.ireturn, 1) := by decide +kernel
theorem dX8_hosts_13 : decode cX8_hosts 13 = .ok (.aload_n 0, 1) := by decide +kernel
theorem dX8_hosts_14 : decode cX8_hosts 14 = .ok (.getfield 12, 3) := by decide +kernel
theorem dX8_hosts_17 : decode cX8_hosts 17 = .ok (.iload_n 1, 1) := by decide +kernel
theorem dX8_hosts_18 : decode cX8_hosts 18 = .ok (.invokevirtual 61, 3) := by decide +kernel
theorem dX8_hosts_21 : decode cX8_hosts 21 = .ok (.aload_n 0, 1) := by decide +kernel
theorem dX8_hosts_22 : decode cX8_hosts 22 = .ok (.getfield 19, 3) := by decide +kernel
theorem dX8_hosts_25 : decode cX8_hosts 25 = .ok (.invokevirtual 65, 3) := by decide +kernel
theorem dX8_hosts_28 : decode cX8_hosts 28 = .ok (.aload_n 0, 1) := by decide +kernel
theorem dX8_hosts_29 : decode cX8_hosts 29 = .ok (.getfield 54, 3) := by decide +kernel
theorem dX8_hosts_32 : decode cX8_hosts 32 = .ok (.invokevirtual 68, 3) := by decide +kernel
theorem dX8_hosts_35 : decode cX8_hosts 35 = .ok (.iconst 1, 1) := by decide +kernel
theorem dX8_hosts_36 : decode cX8_hosts 36 = .ok (.ireturn, 1) := by decide +kernel
set_option maxRecDepth 20000 in
theorem ggX8_line_X3_isPair : GoodIn wsX8_line wsX3_isPair := goodIn_r _ [7, 8, 9, 10, 6, 11, 12, 50, 51, 52, 53, 54, 55, 56, 57, 58] (by decide +kernel) (by decide +kernel)
set_option maxRecDepth 20000 in
theorem gX8_line_X3_isPair : GoodIn wsX8_line (wsV RX8 71 RX3 yX3_isPair wsX3_isPair) := goodIn_app (goodIn_of _ (by decide +kernel)) ggX8_line_X3_isPair
set_option maxRecDepth 20000 in
theorem ggX8_line_X3_part : GoodIn wsX8_line wsX3_part := goodIn_r _ [16, 17, 18, 19, 20, 21, 6, 22, 23, 24, 25, 50, 51, 52, 53, 54, 55, 56, 57, 58] (by decide +kernel) (by decide +kernel)
set_option maxRecDepth 20000 in
theorem gX8_line_X3_part : GoodIn wsX8_line (wsV RX8 75 RX3 yX3_part wsX3_part) := goodIn_app (goodIn_of _ (by decide +kernel)) ggX8_line_X3_part
set_option maxRecDepth 20000 in
theorem ggX8_line_X8_isPace : GoodIn wsX8_line wsX8_isPace := goodIn_r _ [29] (by decide +kernel) (by decide +kernel)
set_option maxRecDepth 20000 in
theorem gX8_line_X8_isPace : GoodIn wsX8_line (va_wsS RX8 79 yX8_isPace wsX8_isPace) := goodIn_app (goodIn_of _ (by decide +kernel)) ggX8_line_X8_isPace
set_option maxRecDepth 20000 in
theorem ggX8_line_X3_join : GoodIn wsX8_line wsX3_join := goodIn_r _ [33, 17, 18, 34, 35, 4, 5, 6, 7, 8, 9, 10, 11, 12, 19, 20, 21, 22, 23, 24, 25, 50, 51, 52, 53, 54, 55, 56, 57, 58] (by decide +kernel) (by decide +kernel)
set_option maxRecDepth 20000 in
theorem gX8_line_X3_join : GoodIn wsX8_line (wsV RX8 82 RX3 yX3_join wsX3_join) := goodIn_app (goodIn_of _ (by decide +kernel)) ggX8_line_X3_join
set_option maxRecDepth 20000 in
theorem ggX8_line_X4_empty : GoodIn wsX8_line wsX4_empty := goodIn_r _ [40, 41, 59, 60] (by decide +kernel) (by decide +kernel)
set_option maxRecDepth 20000 in
theorem gX8_line_X4_empty : GoodIn wsX8_line (wsV RX8 68 RX4 yX4_empty wsX4_empty) := goodIn_app (goodIn_of _ (by decide +kernel)) ggX8_line_X4_empty
theorem dX8_line_0 : decode cX8_line 0 = .ok (.aload_n 0, 1) := by decide +kernel
theorem dX8_line_1 : decode cX8_line 1 = .ok (.getfield 12, 3) := by decide +kernel
theorem dX8_line_4 : decode cX8_line 4 = .ok (.iload_n 1, 1) := by decide +kernel
theorem dX8_line_5 : decode cX8_line 5 = .ok (.iload_n 2, 1) := by decide +kernel
theorem dX8_line_6 : decode cX8_line 6 = .ok (.invokevirtual 71, 3) := by decide +kernel
theorem dX8_line_9 : decode cX8_line 9 = .ok (.ifCond .ne 5, 3) := by decide +kernel
theorem dX8_line_12 : decode cX8_line 12 = .ok (.iconst 0, 1) := by decide +kernel
theorem dX8_line_13 : decode cX8_line 13 = .ok (.ireturn, 1) := by decide +kernel
theorem dX8_line_14 : decode cX8_line 14 = .ok (.iload_n 3, 1) := by decide +kernel
theorem dX8_line_15 : decode cX8_line 15 = .ok (.iconst (-1), 1) := by decide +kernel
theorem dX8_line_16 : decode cX8_line 16 = .ok (.if_icmp .ne 15, 3) := by decide +kernel
theorem dX8_line_19 : decode cX8_line 19 = .ok (.aload_n 0, 1) := by decide +kernel
theorem dX8_line_20 : decode cX8_line 20 = .ok (.getfield 12, 3) := by decide +kernel
theorem dX8_line_23 : decode cX8_line 23 = .ok (.iload_n 1, 1) := by decide +kernel
theorem dX8_line_24 : decode cX8_line 24 = .ok (.iload_n 2, 1) := by decide +kernel
theorem dX8_line_25 : decode cX8_line 25 = .ok (.invokevirtual 75, 3) := by decide +kernel
theorem dX8_line_28 : decode cX8_line 28 = .ok (.goto 29, 3) := by decide +kernel
theorem dX8_line_31 : decode cX8_line 31 = .ok (.iload_n 3, 1) := by decide +kernel
theorem dX8_line_32 : decode cX8_line 32 = .ok (.iload 4, 2) := by decide +kernel
theorem dX8_line_34 : decode cX8_line 34 = .ok (.invokestatic 79, 3) := by decide +kernel
theorem dX8_line_37 : decode cX8_line 37 = .ok (.ifCond .eq 18, 3) := by decide +kernel
theorem dX8_line_40 : decode cX8_line 40 = .ok (.aload_n 0, 1) := by decide +kernel
theorem dX8_line_41 : decode cX8_line 41 = .ok (.getfield 12, 3) := by decide +kernel
theorem dX8_line_44 : decode cX8_line 44 = .ok (.iload_n 1, 1) := by decide +kernel
theorem dX8_line_45 : decode cX8_line 45 = .ok (.iload_n 2, 1) := by decide +kernel
theorem dX8_line_46 : decode cX8_line 46 = .ok (.iload_n 3, 1) := by decide +kernel
theorem dX8_line_47 : decode cX8_line 47 = .ok (.iload 4, 2) := by decide +kernel
theorem dX8_line_49 : decode cX8_line 49 = .ok (.invokevirtual 82, 3) := by decide +kernel
theorem dX8_line_52 : decode cX8_line 52 = .ok (.goto 5, 3) := by decide +kernel
theorem dX8_line_55 : decode cX8_line 55 = .ok (.iconst 0, 1) := by decide +kernel
theorem dX8_line_56 : decode cX8_line 56 = .ok (.ireturn, 1) := by decide +kernel
theorem dX8_line_57 : decode cX8_line 57 = .ok (.aload_n 0, 1) := by decide +kernel
theorem dX8_line_58 : decode cX8_line 58 = .ok (.getfield 54, 3) := by decide +kernel
theorem dX8_line_61 : decode cX8_line 61 = .ok (.invokevirtual 68, 3) := by decide +kernel
theorem dX8_line_64 : decode cX8_line 64 = .ok (.iconst 1, 1) := by decide +kernel
theorem dX8_line_65 : decode cX8_line 65 = .ok (.ireturn, 1) := by decide +kernel
set_option maxRecDepth 20000 in
theorem ggX8_net_X8_isPace : GoodIn wsX8_net wsX8_isPace := goodIn_r _ [6] (by decide +kernel) (by decide +kernel)
set_option maxRecDepth 20000 in
theorem gX8_net_X8_isPace : GoodIn wsX8_net (va_wsS RX8 79 yX8_isPace wsX8_isPace) := goodIn_app (goodIn_of _ (by decide +kernel)) ggX8_net_X8_isPace
set_option maxRecDepth 20000 in
theorem ggX8_net_X3_joinByForm : GoodIn wsX8_net wsX3_joinByForm := goodIn_r _ [11, 12, 13, 14, 15, 10, 16, 17, 18, 19, 20, 21, 22, 23, 24, 25, 26, 27, 28, 29, 30, 31, 32, 33, 34, 35, 36, 37, 38, 39, 40, 41, 42, 43, 44, 45, 64, 65, 66, 67, 68, 69, 70, 71, 72] (by decide +kernel) (by decide +kernel)
set_option maxRecDepth 20000 in
theorem gX8_net_X3_joinByForm : GoodIn wsX8_net (wsV RX8 86 RX3 yX3_joinByForm wsX3_joinByForm) := goodIn_app (goodIn_of _ (by decide +kernel)) ggX8_net_X3_joinByForm
set_option maxRecDepth 20000 in
theorem ggX8_net_X4_empty : GoodIn wsX8_net wsX4_empty := goodIn_r _ [50, 51, 73, 74] (by decide +kernel) (by decide +kernel)
set_option maxRecDepth 20000 in
theorem gX8_net_X4_empty : GoodIn wsX8_net (wsV RX8 68 RX4 yX4_empty wsX4_empty) := goodIn_app (goodIn_of _ (by decide +kernel)) ggX8_net_X4_empty
set_option maxRecDepth 20000 in
theorem ggX8_net_X3_lines : GoodIn wsX8_net wsX3_lines := goodIn_r _ [55, 28, 64, 65, 66, 67, 68, 69, 70, 71, 72] (by decide +kernel) (by decide +kernel)
set_option maxRecDepth 20000 in
theorem gX8_net_X3_lines : GoodIn wsX8_net (wsV RX8 90 RX3 yX3_lines wsX3_lines) := goodIn_app (goodIn_of _ (by decide +kernel)) ggX8_net_X3_lines
theorem dX8_net_0 : decode cX8_net 0 = .ok (.iload_n 1, 1) := by decide +kernel
theorem dX8_net_1 : decode cX8_net 1 = .ok (.ifCond .lt 16, 3) := by decide +kernel
theorem dX8_net_4 : decode cX8_net 4 = .ok (.iload_n 1, 1) := by decide +kernel
theorem dX8_net_5 : decode cX8_net 5 = .ok (.iconst 3, 1) := by decide +kernel
theorem dX8_net_6 : decode cX8_net 6 = .ok (.if_icmp .gt 11, 3) := by decide +kernel
theorem dX8_net_9 : decode cX8_net 9 = .ok (.iload_n 2, 1) := by decide +kernel
theorem dX8_net_10 : decode cX8_net 10 = .ok (.iload_n 3, 1) := by decide +kernel
theorem dX8_net_11 : decode cX8_net 11 = .ok (.invokestatic 79, 3) := by decide +kernel
theorem dX8_net_14 : decode cX8_net 14 = .ok (.ifCond .ne 5, 3) := by decide +kernel
theorem dX8_net_17 : decode cX8_net 17 = .ok (.iconst (-1), 1) := by decide +kernel
theorem dX8_net_18 : decode cX8_net 18 = .ok (.ireturn, 1) := by decide +kernel
theorem dX8_net_19 : decode cX8_net 19 = .ok (.aload_n 0, 1) := by decide +kernel
theorem dX8_net_20 : decode cX8_net 20 = .ok (.getfield 12, 3) := by decide +kernel
theorem dX8_net_23 : decode cX8_net 23 = .ok (.iload_n 1, 1) := by decide +kernel
theorem dX8_net_24 : decode cX8_net 24 = .ok (.iload_n 2, 1) := by decide +kernel
theorem dX8_net_25 : decode cX8_net 25 = .ok (.iload_n 3, 1) := by decide +kernel
theorem dX8_net_26 : decode cX8_net 26 = .ok (.invokevirtual 86, 3) := by decide +kernel
theorem dX8_net_29 : decode cX8_net 29 = .ok (.aload_n 0, 1) := by decide +kernel
theorem dX8_net_30 : decode cX8_net 30 = .ok (.getfield 54, 3) := by decide +kernel
theorem dX8_net_33 : decode cX8_net 33 = .ok (.invokevirtual 68, 3) := by decide +kernel
theorem dX8_net_36 : decode cX8_net 36 = .ok (.aload_n 0, 1) := by decide +kernel
theorem dX8_net_37 : decode cX8_net 37 = .ok (.getfield 12, 3) := by decide +kernel
theorem dX8_net_40 : decode cX8_net 40 = .ok (.invokevirtual 90, 3) := by decide +kernel
theorem dX8_net_43 : decode cX8_net 43 = .ok (.ireturn, 1) := by decide +kernel
set_option maxRecDepth 20000 in
theorem ggX8_set_X3_isHost : GoodIn wsX8_set wsX3_isHost := goodIn_r _ [7, 8, 32, 33, 34, 35, 36, 37, 38, 39, 40] (by decide +kernel) (by decide +kernel)
set_option maxRecDepth 20000 in
theorem gX8_set_X3_isHost : GoodIn wsX8_set (wsV RX8 94 RX3 yX3_isHost wsX3_isHost) := goodIn_app (goodIn_of _ (by decide +kernel)) ggX8_set_X3_isHost
set_option maxRecDepth 20000 in
theorem ggX8_set_X8_isBlock : GoodIn wsX8_set wsX8_isBlock := goodIn_r _ [12] (by decide +kernel) (by decide +kernel)
set_option maxRecDepth 20000 in
theorem gX8_set_X8_isBlock : GoodIn wsX8_set (va_wsS RX8 98 yX8_isBlock wsX8_isBlock) := goodIn_app (goodIn_of _ (by decide +kernel)) ggX8_set_X8_isBlock
set_option maxRecDepth 20000 in
theorem ggX8_set_X8_cell : GoodIn wsX8_set wsX8_cell := goodIn_r _ [15] (by decide +kernel) (by decide +kernel)
set_option maxRecDepth 20000 in
theorem gX8_set_X8_cell : GoodIn wsX8_set (va_wsS RX8 101 yX8_cell wsX8_cell) := goodIn_app (goodIn_of _ (by decide +kernel)) ggX8_set_X8_cell
set_option maxRecDepth 20000 in
theorem ggX8_set_X2_change : GoodIn wsX8_set wsX2_change := goodIn_r _ [20, 21, 22, 11, 23, 41, 42] (by decide +kernel) (by decide +kernel)
set_option maxRecDepth 20000 in
theorem gX8_set_X2_change : GoodIn wsX8_set (wsV RX8 105 RX2 yX2_change wsX2_change) := goodIn_app (goodIn_of _ (by decide +kernel)) ggX8_set_X2_change
theorem dX8_set_0 : decode cX8_set 0 = .ok (.aload_n 0, 1) := by decide +kernel
theorem dX8_set_1 : decode cX8_set 1 = .ok (.getfield 12, 3) := by decide +kernel
theorem dX8_set_4 : decode cX8_set 4 = .ok (.iload_n 1, 1) := by decide +kernel
theorem dX8_set_5 : decode cX8_set 5 = .ok (.invokevirtual 94, 3) := by decide +kernel
theorem dX8_set_8 : decode cX8_set 8 = .ok (.ifCond .eq 10, 3) := by decide +kernel
theorem dX8_set_11 : decode cX8_set 11 = .ok (.iload_n 2, 1) := by decide +kernel
theorem dX8_set_12 : decode cX8_set 12 = .ok (.invokestatic 98, 3) := by decide +kernel
theorem dX8_set_15 : decode cX8_set 15 = .ok (.ifCond .ne 5, 3) := by decide +kernel
theorem dX8_set_18 : decode cX8_set 18 = .ok (.iconst 0, 1) := by decide +kernel
theorem dX8_set_19 : decode cX8_set 19 = .ok (.ireturn, 1) := by decide +kernel
theorem dX8_set_20 : decode cX8_set 20 = .ok (.aload_n 0, 1) := by decide +kernel
theorem dX8_set_21 : decode cX8_set 21 = .ok (.getfield 19, 3) := by decide +kernel
theorem dX8_set_24 : decode cX8_set 24 = .ok (.iload_n 1, 1) := by decide +kernel
theorem dX8_set_25 : decode cX8_set 25 = .ok (.iload_n 2, 1) := by decide +kernel
theorem dX8_set_26 : decode cX8_set 26 = .ok (.invokestatic 101, 3) := by decide +kernel
theorem dX8_set_29 : decode cX8_set 29 = .ok (.iload_n 3, 1) := by decide +kernel
theorem dX8_set_30 : decode cX8_set 30 = .ok (.invokevirtual 105, 3) := by decide +kernel
theorem dX8_set_33 : decode cX8_set 33 = .ok (.iconst 1, 1) := by decide +kernel
theorem dX8_set_34 : decode cX8_set 34 = .ok (.ireturn, 1) := by decide +kernel
set_option maxRecDepth 20000 in
theorem ggX8_at_X3_isHost : GoodIn wsX8_at wsX3_isHost := goodIn_r _ [9, 10, 34, 35, 36, 37, 38, 39, 40, 41, 42] (by decide +kernel) (by decide +kernel)
set_option maxRecDepth 20000 in
theorem gX8_at_X3_isHost : GoodIn wsX8_at (wsV RX8 94 RX3 yX3_isHost wsX3_isHost) := goodIn_app (goodIn_of _ (by decide +kernel)) ggX8_at_X3_isHost
set_option maxRecDepth 20000 in
theorem ggX8_at_X8_isBlock : GoodIn wsX8_at wsX8_isBlock := goodIn_r _ [14] (by decide +kernel) (by decide +kernel)
set_option maxRecDepth 20000 in
theorem gX8_at_X8_isBlock : GoodIn wsX8_at (va_wsS RX8 98 yX8_isBlock wsX8_isBlock) := goodIn_app (goodIn_of _ (by decide +kernel)) ggX8_at_X8_isBlock
set_option maxRecDepth 20000 in
theorem ggX8_at_X8_cell : GoodIn wsX8_at wsX8_cell := goodIn_r _ [17] (by decide +kernel) (by decide +kernel)
set_option maxRecDepth 20000 in
theorem gX8_at_X8_cell : GoodIn wsX8_at (va_wsS RX8 101 yX8_cell wsX8_cell) := goodIn_app (goodIn_of _ (by decide +kernel)) ggX8_at_X8_cell
set_option maxRecDepth 20000 in
theorem ggX8_at_X2_value : GoodIn wsX8_at wsX2_value := goodIn_r _ [22, 23, 24, 13, 25, 43, 44] (by decide +kernel) (by decide +kernel)
set_option maxRecDepth 20000 in
theorem gX8_at_X2_value : GoodIn wsX8_at (wsV RX8 115 RX2 yX2_value wsX2_value) := goodIn_app (goodIn_of _ (by decide +kernel)) ggX8_at_X2_value
theorem dX8_at_0 : decode cX8_at 0 = .ok (.aload_n 0, 1) := by decide +kernel
theorem dX8_at_1 : decode cX8_at 1 = .ok (.getfield 12, 3) := by decide +kernel
theorem dX8_at_4 : decode cX8_at 4 = .ok (.iload_n 1, 1) := by decide +kernel
theorem dX8_at_5 : decode cX8_at 5 = .ok (.invokevirtual 94, 3) := by decide +kernel
theorem dX8_at_8 : decode cX8_at 8 = .ok (.ifCond .eq 10, 3) := by decide +kernel
theorem dX8_at_11 : decode cX8_at 11 = .ok (.iload_n 2, 1) := by decide +kernel
theorem dX8_at_12 : decode cX8_at 12 = .ok (.invokestatic 98, 3) := by decide +kernel
theorem dX8_at_15 : decode cX8_at 15 = .ok (.ifCond .ne 13, 3) := by decide +kernel
theorem dX8_at_18 : decode cX8_at 18 = .ok (.new 108, 3) := by decide +kernel
theorem dX8_at_21 : decode cX8_at 21 = .ok (.dup, 1) := by decide +kernel
theorem dX8_at_22 : decode cX8_at 22 = .ok (.ldc 110, 2) := by decide +kernel
theorem dX8_at_24 : decode cX8_at 24 = .ok (.invokespecial 112, 3) := by decide +kernel
theorem dX8_at_27 : decode cX8_at 27 = .ok (.athrow, 1) := by decide +kernel
theorem dX8_at_28 : decode cX8_at 28 = .ok (.aload_n 0, 1) := by decide +kernel
theorem dX8_at_29 : decode cX8_at 29 = .ok (.getfield 19, 3) := by decide +kernel
theorem dX8_at_32 : decode cX8_at 32 = .ok (.iload_n 1, 1) := by decide +kernel
theorem dX8_at_33 : decode cX8_at 33 = .ok (.iload_n 2, 1) := by decide +kernel
theorem dX8_at_34 : decode cX8_at 34 = .ok (.invokestatic 101, 3) := by decide +kernel
theorem dX8_at_37 : decode cX8_at 37 = .ok (.invokevirtual 115, 3) := by decide +kernel
theorem dX8_at_40 : decode cX8_at 40 = .ok (.ireturn, 1) := by decide +kernel
set_option maxRecDepth 20000 in
theorem ggX8_live_X3_isHost : GoodIn wsX8_live wsX3_isHost := goodIn_r _ [7, 8, 44, 45, 46, 47, 48, 49, 50, 51, 52] (by decide +kernel) (by decide +kernel)
set_option maxRecDepth 20000 in
theorem gX8_live_X3_isHost : GoodIn wsX8_live (wsV RX8 94 RX3 yX3_isHost wsX3_isHost) := goodIn_app (goodIn_of _ (by decide +kernel)) ggX8_live_X3_isHost
set_option maxRecDepth 20000 in
theorem ggX8_live_X3_isLastLive : GoodIn wsX8_live wsX3_isLastLive := goodIn_r _ [12, 13, 14, 15, 16, 6, 17, 18, 19, 4, 5, 7, 8, 44, 45, 46, 47, 48, 49, 50, 51, 52] (by decide +kernel) (by decide +kernel)
set_option maxRecDepth 20000 in
theorem gX8_live_X3_isLastLive : GoodIn wsX8_live (wsV RX8 119 RX3 yX3_isLastLive wsX3_isLastLive) := goodIn_app (goodIn_of _ (by decide +kernel)) ggX8_live_X3_isLastLive
set_option maxRecDepth 20000 in
theorem ggX8_live_X3_turn : GoodIn wsX8_live wsX3_turn := goodIn_r _ [23, 18, 19, 4, 5, 6, 7, 8, 24, 25, 26, 27, 13, 28, 29, 44, 45, 46, 47, 48, 49, 50, 51, 52] (by decide +kernel) (by decide +kernel)
set_option maxRecDepth 20000 in
theorem gX8_live_X3_turn : GoodIn wsX8_live (wsV RX8 122 RX3 yX3_turn wsX3_turn) := goodIn_app (goodIn_of _ (by decide +kernel)) ggX8_live_X3_turn
set_option maxRecDepth 20000 in
theorem ggX8_live_X4_empty : GoodIn wsX8_live wsX4_empty := goodIn_r _ [34, 35, 53, 54] (by decide +kernel) (by decide +kernel)
set_option maxRecDepth 20000 in
theorem gX8_live_X4_empty : GoodIn wsX8_live (wsV RX8 68 RX4 yX4_empty wsX4_empty) := goodIn_app (goodIn_of _ (by decide +kernel)) ggX8_live_X4_empty
theorem dX8_live_0 : decode cX8_live 0 = .ok (.aload_n 0, 1) := by decide +kernel
theorem dX8_live_1 : decode cX8_live 1 = .ok (.getfield 12, 3) := by decide +kernel
theorem dX8_live_4 : decode cX8_live 4 = .ok (.iload_n 1, 1) := by decide +kernel
theorem dX8_live_5 : decode cX8_live 5 = .ok (.invokevirtual 94, 3) := by decide +kernel
theorem dX8_live_8 : decode cX8_live 8 = .ok (.ifCond .eq 18, 3) := by decide +kernel
theorem dX8_live_11 : decode cX8_live 11 = .ok (.iload_n 2, 1) := by decide +kernel
theorem dX8_live_12 : decode cX8_live 12 = .ok (.ifCond .ne 16, 3) := by decide +kernel
theorem dX8_live_15 : decode cX8_live 15 = .ok (.aload_n 0, 1) := by decide +kernel
theorem dX8_live_16 : decode cX8_live 16 = .ok (.getfield 12, 3) := by decide +kernel
theorem dX8_live_19 : decode cX8_live 19 = .ok (.iload_n 1, 1) := by decide +kernel
theorem dX8_live_20 : decode cX8_live 20 = .ok (.invokevirtual 119, 3) := by decide +kernel
theorem dX8_live_23 : decode cX8_live 23 = .ok (.ifCond .eq 5, 3) := by decide +kernel
theorem dX8_live_26 : decode cX8_live 26 = .ok (.iconst 0, 1) := by decide +kernel
theorem dX8_live_27 : decode cX8_live 27 = .ok (.ireturn, 1) := by decide +kernel
theorem dX8_live_28 : decode cX8_live 28 = .ok (.aload_n 0, 1) := by decide +kernel
theorem dX8_live_29 : decode cX8_live 29 = .ok (.getfield 12, 3) := by decide +kernel
theorem dX8_live_32 : decode cX8_live 32 = .ok (.iload_n 1, 1) := by decide +kernel
theorem dX8_live_33 : decode cX8_live 33 = .ok (.iload_n 2, 1) := by decide +kernel
theorem dX8_live_34 : decode cX8_live 34 = .ok (.invokevirtual 122, 3) := by decide +kernel
theorem dX8_live_37 : decode cX8_live 37 = .ok (.aload_n 0, 1) := by decide +kernel
theorem dX8_live_38 : decode cX8_live 38 = .ok (.getfield 54, 3) := by decide +kernel
theorem dX8_live_41 : decode cX8_live 41 = .ok (.invokevirtual 68, 3) := by decide +kernel
theorem dX8_live_44 : decode cX8_live 44 = .ok (.iconst 1, 1) := by decide +kernel
theorem dX8_live_45 : decode cX8_live 45 = .ok (.ireturn, 1) := by decide +kernel
set_option maxRecDepth 20000 in
theorem ggX8_late_X3_isHost : GoodIn wsX8_late wsX3_isHost := goodIn_r _ [7, 8, 23, 24, 25, 26, 27, 28, 29, 30, 31] (by decide +kernel) (by decide +kernel)
set_option maxRecDepth 20000 in
theorem gX8_late_X3_isHost : GoodIn wsX8_late (wsV RX8 94 RX3 yX3_isHost wsX3_isHost) := goodIn_app (goodIn_of _ (by decide +kernel)) ggX8_late_X3_isHost
set_option maxRecDepth 20000 in
theorem ggX8_late_X3_delay : GoodIn wsX8_late wsX3_delay := goodIn_r _ [12, 13, 14, 4, 5, 6, 7, 8, 23, 24, 25, 26, 27, 28, 29, 30, 31] (by decide +kernel) (by decide +kernel)
set_option maxRecDepth 20000 in
theorem gX8_late_X3_delay : GoodIn wsX8_late (wsV RX8 127 RX3 yX3_delay wsX3_delay) := goodIn_app (goodIn_of _ (by decide +kernel)) ggX8_late_X3_delay
theorem dX8_late_0 : decode cX8_late 0 = .ok (.aload_n 0, 1) := by decide +kernel
theorem dX8_late_1 : decode cX8_late 1 = .ok (.getfield 12, 3) := by decide +kernel
theorem dX8_late_4 : decode cX8_late 4 = .ok (.iload_n 1, 1) := by decide +kernel
theorem dX8_late_5 : decode cX8_late 5 = .ok (.invokevirtual 94, 3) := by decide +kernel
theorem dX8_late_8 : decode cX8_late 8 = .ok (.ifCond .eq 13, 3) := by decide +kernel
theorem dX8_late_11 : decode cX8_late 11 = .ok (.iload_n 2, 1) := by decide +kernel
theorem dX8_late_12 : decode cX8_late 12 = .ok (.ifCond .lt 9, 3) := by decide +kernel
theorem dX8_late_15 : decode cX8_late 15 = .ok (.iload_n 2, 1) := by decide +kernel
theorem dX8_late_16 : decode cX8_late 16 = .ok (.ldc 126, 2) := by decide +kernel
theorem dX8_late_18 : decode cX8_late 18 = .ok (.if_icmp .le 5, 3) := by decide +kernel
theorem dX8_late_21 : decode cX8_late 21 = .ok (.iconst 0, 1) := by decide +kernel
theorem dX8_late_22 : decode cX8_late 22 = .ok (.ireturn, 1) := by decide +kernel
theorem dX8_late_23 : decode cX8_late 23 = .ok (.aload_n 0, 1) := by decide +kernel
theorem dX8_late_24 : decode cX8_late 24 = .ok (.getfield 12, 3) := by decide +kernel
theorem dX8_late_27 : decode cX8_late 27 = .ok (.iload_n 1, 1) := by decide +kernel
theorem dX8_late_28 : decode cX8_late 28 = .ok (.iload_n 2, 1) := by decide +kernel
theorem dX8_late_29 : decode cX8_late 29 = .ok (.invokevirtual 127, 3) := by decide +kernel
theorem dX8_late_32 : decode cX8_late 32 = .ok (.iconst 1, 1) := by decide +kernel
theorem dX8_late_33 : decode cX8_late 33 = .ok (.ireturn, 1) := by decide +kernel
set_option maxRecDepth 20000 in
theorem ggX8_count_X3_size : GoodIn wsX8_count wsX3_size := goodIn_r _ [7, 8, 50, 51, 52, 53, 54, 55, 56, 57, 58] (by decide +kernel) (by decide +kernel)
set_option maxRecDepth 20000 in
theorem gX8_count_X3_size : GoodIn wsX8_count (wsV RX8 130 RX3 yX3_size wsX3_size) := goodIn_app (goodIn_of _ (by decide +kernel)) ggX8_count_X3_size
set_option maxRecDepth 20000 in
theorem ggX8_count_X3_ranks : GoodIn wsX8_count wsX3_ranks := goodIn_r _ [12, 13, 50, 51, 52, 53, 54, 55, 56, 57, 58] (by decide +kernel) (by decide +kernel)
set_option maxRecDepth 20000 in
theorem gX8_count_X3_ranks : GoodIn wsX8_count (wsV RX8 133 RX3 yX3_ranks wsX3_ranks) := goodIn_app (goodIn_of _ (by decide +kernel)) ggX8_count_X3_ranks
set_option maxRecDepth 20000 in
theorem ggX8_count_X3_lines : GoodIn wsX8_count wsX3_lines := goodIn_r _ [17, 18, 50, 51, 52, 53, 54, 55, 56, 57, 58] (by decide +kernel) (by decide +kernel)
set_option maxRecDepth 20000 in
theorem gX8_count_X3_lines : GoodIn wsX8_count (wsV RX8 90 RX3 yX3_lines wsX3_lines) := goodIn_app (goodIn_of _ (by decide +kernel)) ggX8_count_X3_lines
set_option maxRecDepth 20000 in
theorem ggX8_count_X4_size : GoodIn wsX8_count wsX4_size := goodIn_r _ [23, 24, 59, 60] (by decide +kernel) (by decide +kernel)
set_option maxRecDepth 20000 in
theorem gX8_count_X4_size : GoodIn wsX8_count (wsV RX8 136 RX4 yX4_size wsX4_size) := goodIn_app (goodIn_of _ (by decide +kernel)) ggX8_count_X4_size
set_option maxRecDepth 20000 in
theorem ggX8_count_X4_steps : GoodIn wsX8_count wsX4_steps := goodIn_r _ [28, 24, 29, 59, 60] (by decide +kernel) (by decide +kernel)
set_option maxRecDepth 20000 in
theorem gX8_count_X4_steps : GoodIn wsX8_count (wsV RX8 137 RX4 yX4_steps wsX4_steps) := goodIn_app (goodIn_of _ (by decide +kernel)) ggX8_count_X4_steps
set_option maxRecDepth 20000 in
theorem ggX8_count_X4_letters : GoodIn wsX8_count wsX4_letters := goodIn_r _ [33, 24, 34, 35, 36, 22, 37, 38, 39, 40, 41, 29, 59, 60] (by decide +kernel) (by decide +kernel)
set_option maxRecDepth 20000 in
theorem gX8_count_X4_letters : GoodIn wsX8_count (wsV RX8 140 RX4 yX4_letters wsX4_letters) := goodIn_app (goodIn_of _ (by decide +kernel)) ggX8_count_X4_letters
theorem dX8_count_0 : decode cX8_count 0 = .ok (.iload_n 1, 1) := by decide +kernel
theorem dX8_count_1 : decode cX8_count 1 = .ok (.tableswitch 87 0 5 #[39, 47, 55, 63, 71, 79], 39) := by decide +kernel
theorem dX8_count_40 : decode cX8_count 40 = .ok (.aload_n 0, 1) := by decide +kernel
theorem dX8_count_41 : decode cX8_count 41 = .ok (.getfield 12, 3) := by decide +kernel
theorem dX8_count_44 : decode cX8_count 44 = .ok (.invokevirtual 130, 3) := by decide +kernel
theorem dX8_count_47 : decode cX8_count 47 = .ok (.ireturn, 1) := by decide +kernel
theorem dX8_count_48 : decode cX8_count 48 = .ok (.aload_n 0, 1) := by decide +kernel
theorem dX8_count_49 : decode cX8_count 49 = .ok (.getfield 12, 3) := by decide +kernel
theorem dX8_count_52 : decode cX8_count 52 = .ok (.invokevirtual 133, 3) := by decide +kernel
theorem dX8_count_55 : decode cX8_count 55 = .ok (.ireturn, 1) := by decide +kernel
theorem dX8_count_56 : decode cX8_count 56 = .ok (.aload_n 0, 1) := by decide +kernel
theorem dX8_count_57 : decode cX8_count 57 = .ok (.getfield 12, 3) := by decide +kernel
theorem dX8_count_60 : decode cX8_count 60 = .ok (.invokevirtual 90, 3) := by decide +kernel
theorem dX8_count_63 : decode cX8_count 63 = .ok (.ireturn, 1) := by decide +kernel
theorem dX8_count_64 : decode cX8_count 64 = .ok (.aload_n 0, 1) := by decide +kernel
theorem dX8_count_65 : decode cX8_count 65 = .ok (.getfield 54, 3) := by decide +kernel
theorem dX8_count_68 : decode cX8_count 68 = .ok (.invokevirtual 136, 3) := by decide +kernel
theorem dX8_count_71 : decode cX8_count 71 = .ok (.ireturn, 1) := by decide +kernel
theorem dX8_count_72 : decode cX8_count 72 = .ok (.aload_n 0, 1) := by decide +kernel
theorem dX8_count_73 : decode cX8_count 73 = .ok (.getfield 54, 3) := by decide +kernel
theorem dX8_count_76 : decode cX8_count 76 = .ok (.invokevirtual 137, 3) := by decide +kernel
theorem dX8_count_79 : decode cX8_count 79 = .ok (.ireturn, 1) := by decide +kernel
theorem dX8_count_80 : decode cX8_count 80 = .ok (.aload_n 0, 1) := by decide +kernel
theorem dX8_count_81 : decode cX8_count 81 = .ok (.getfield 54, 3) := by decide +kernel
theorem dX8_count_84 : decode cX8_count 84 = .ok (.invokevirtual 140, 3) := by decide +kernel
theorem dX8_count_87 : decode cX8_count 87 = .ok (.ireturn, 1) := by decide +kernel
theorem dX8_count_88 : decode cX8_count 88 = .ok (.iconst (-1), 1) := by decide +kernel
theorem dX8_count_89 : decode cX8_count 89 = .ok (.ireturn, 1) := by decide +kernel
set_option maxRecDepth 20000 in
theorem ggX8_build_X7_draw : GoodIn wsX8_build wsX7_draw := goodIn_r _ [9, 10, 11, 12, 13, 14, 15, 16, 17, 18, 19, 20, 21, 22, 23, 24, 25, 26, 27, 28, 29, 30, 8, 31, 32, 33, 34, 35, 36, 37, 38, 39, 40, 41, 42, 43, 44, 45, 46, 47, 48, 49, 50, 51, 52, 53, 54, 55, 56, 57, 58, 59, 60, 61, 62, 63, 64, 65, 66, 67, 68, 69, 70, 71, 72, 73, 74, 75, 76, 77, 78, 79, 80, 81, 82, 83, 84, 85, 86, 87, 88, 89, 90, 91, 92, 93, 94, 95, 96, 97, 98, 99, 100, 101, 102, 103, 104, 105, 106, 107, 108, 109, 110, 111, 112, 113, 114, 115, 116, 117, 118, 119, 120, 121, 122, 123, 124, 125, 126, 127, 128, 129, 130, 139, 140, 141, 142, 143, 144, 145, 146, 147, 148, 149, 150, 151, 152, 153, 154, 155] (by decide +kernel) (by decide +kernel)
set_option maxRecDepth 20000 in
theorem gX8_build_X7_draw : GoodIn wsX8_build (wsV RX8 143 RX7 yX7_draw wsX7_draw) := goodIn_app (goodIn_of _ (by decide +kernel)) ggX8_build_X7_draw
theorem dX8_build_0 : decode cX8_build 0 = .ok (.aload_n 0, 1) := by decide +kernel
theorem dX8_build_1 : decode cX8_build 1 = .ok (.getfield 40, 3) := by decide +kernel
theorem dX8_build_4 : decode cX8_build 4 = .ok (.aload_n 0, 1) := by decide +kernel
theorem dX8_build_5 : decode cX8_build 5 = .ok (.getfield 58, 3) := by decide +kernel
theorem dX8_build_8 : decode cX8_build 8 = .ok (.aload_n 0, 1) := by decide +kernel
theorem dX8_build_9 : decode cX8_build 9 = .ok (.getfield 12, 3) := by decide +kernel
theorem dX8_build_12 : decode cX8_build 12 = .ok (.iload_n 1, 1) := by decide +kernel
theorem dX8_build_13 : decode cX8_build 13 = .ok (.iload_n 2, 1) := by decide +kernel
theorem dX8_build_14 : decode cX8_build 14 = .ok (.iload_n 3, 1) := by decide +kernel
theorem dX8_build_15 : decode cX8_build 15 = .ok (.invokevirtual 143, 3) := by decide +kernel
theorem dX8_build_18 : decode cX8_build 18 = .ok (.istore 4, 2) := by decide +kernel
theorem dX8_build_20 : decode cX8_build 20 = .ok (.iload 4, 2) := by decide +kernel
theorem dX8_build_22 : decode cX8_build 22 = .ok (.ifCond .lt 23, 3) := by decide +kernel
theorem dX8_build_25 : decode cX8_build 25 = .ok (.aload_n 0, 1) := by decide +kernel
theorem dX8_build_26 : decode cX8_build 26 = .ok (.getfield 54, 3) := by decide +kernel
theorem dX8_build_29 : decode cX8_build 29 = .ok (.astore 5, 2) := by decide +kernel
theorem dX8_build_31 : decode cX8_build 31 = .ok (.aload_n 0, 1) := by decide +kernel
theorem dX8_build_32 : decode cX8_build 32 = .ok (.aload_n 0, 1) := by decide +kernel
theorem dX8_build_33 : decode cX8_build 33 = .ok (.getfield 58, 3) := by decide +kernel
theorem dX8_build_36 : decode cX8_build 36 = .ok (.putfield 54, 3) := by decide +kernel
theorem dX8_build_39 : decode cX8_build 39 = .ok (.aload_n 0, 1) := by decide +kernel
theorem dX8_build_40 : decode cX8_build 40 = .ok (.aload 5, 2) := by decide +kernel
theorem dX8_build_42 : decode cX8_build 42 = .ok (.putfield 58, 3) := by decide +kernel
theorem dX8_build_45 : decode cX8_build 45 = .ok (.iload 4, 2) := by decide +kernel
theorem dX8_build_47 : decode cX8_build 47 = .ok (.ireturn, 1) := by decide +kernel
set_option maxRecDepth 20000 in
theorem ggX8_clear_X4_size : GoodIn wsX8_clear wsX4_size := goodIn_r _ [6, 7, 20, 21] (by decide +kernel) (by decide +kernel)
set_option maxRecDepth 20000 in
theorem gX8_clear_X4_size : GoodIn wsX8_clear (wsV RX8 136 RX4 yX4_size wsX4_size) := goodIn_app (goodIn_of _ (by decide +kernel)) ggX8_clear_X4_size
set_option maxRecDepth 20000 in
theorem ggX8_clear_X4_empty : GoodIn wsX8_clear wsX4_empty := goodIn_r _ [11, 7, 20, 21] (by decide +kernel) (by decide +kernel)
set_option maxRecDepth 20000 in
theorem gX8_clear_X4_empty : GoodIn wsX8_clear (wsV RX8 68 RX4 yX4_empty wsX4_empty) := goodIn_app (goodIn_of _ (by decide +kernel)) ggX8_clear_X4_empty
theorem dX8_clear_0 : decode cX8_clear 0 = .ok (.aload_n 0, 1) := by decide +kernel
theorem dX8_clear_1 : decode cX8_clear 1 = .ok (.getfield 54, 3) := by decide +kernel
theorem dX8_clear_4 : decode cX8_clear 4 = .ok (.invokevirtual 136, 3) := by decide +kernel
theorem dX8_clear_7 : decode cX8_clear 7 = .ok (.istore_n 1, 1) := by decide +kernel
theorem dX8_clear_8 : decode cX8_clear 8 = .ok (.aload_n 0, 1) := by decide +kernel
theorem dX8_clear_9 : decode cX8_clear 9 = .ok (.getfield 54, 3) := by decide +kernel
theorem dX8_clear_12 : decode cX8_clear 12 = .ok (.invokevirtual 68, 3) := by decide +kernel
theorem dX8_clear_15 : decode cX8_clear 15 = .ok (.iload_n 1, 1) := by decide +kernel
theorem dX8_clear_16 : decode cX8_clear 16 = .ok (.ireturn, 1) := by decide +kernel
set_option maxRecDepth 20000 in
theorem ggX8_send_X8_isBlock : GoodIn wsX8_send wsX8_isBlock := goodIn_r _ [6] (by decide +kernel) (by decide +kernel)
set_option maxRecDepth 20000 in
theorem gX8_send_X8_isBlock : GoodIn wsX8_send (va_wsS RX8 98 yX8_isBlock wsX8_isBlock) := goodIn_app (goodIn_of _ (by decide +kernel)) ggX8_send_X8_isBlock
set_option maxRecDepth 20000 in
theorem ggX8_send_X3_isLive : GoodIn wsX8_send wsX3_isLive := goodIn_r _ [11, 12, 13, 14, 15, 10, 16, 17, 70, 71, 72, 73, 74, 75, 76, 77, 78] (by decide +kernel) (by decide +kernel)
set_option maxRecDepth 20000 in
theorem gX8_send_X3_isLive : GoodIn wsX8_send (wsV RX8 147 RX3 yX3_isLive wsX3_isLive) := goodIn_app (goodIn_of _ (by decide +kernel)) ggX8_send_X3_isLive
set_option maxRecDepth 20000 in
theorem ggX8_send_X3_hasLine : GoodIn wsX8_send wsX3_hasLine := goodIn_r _ [21, 22, 70, 71, 72, 73, 74, 75, 76, 77, 78] (by decide +kernel) (by decide +kernel)
set_option maxRecDepth 20000 in
theorem gX8_send_X3_hasLine : GoodIn wsX8_send (wsV RX8 150 RX3 yX3_hasLine wsX3_hasLine) := goodIn_app (goodIn_of _ (by decide +kernel)) ggX8_send_X3_hasLine
set_option maxRecDepth 20000 in
theorem ggX8_send_X4_isFull : GoodIn wsX8_send wsX4_isFull := goodIn_r _ [27, 28, 79, 80] (by decide +kernel) (by decide +kernel)
set_option maxRecDepth 20000 in
theorem gX8_send_X4_isFull : GoodIn wsX8_send (wsV RX8 153 RX4 yX4_isFull wsX4_isFull) := goodIn_app (goodIn_of _ (by decide +kernel)) ggX8_send_X4_isFull
set_option maxRecDepth 20000 in
theorem ggX8_send_X4_forbids : GoodIn wsX8_send wsX4_forbids := goodIn_r _ [32, 28, 33, 34, 35, 26, 36, 37, 38, 39, 40, 41, 42, 43, 44, 45, 46, 47, 48, 49, 50, 51, 52, 53, 79, 80] (by decide +kernel) (by decide +kernel)
set_option maxRecDepth 20000 in
theorem gX8_send_X4_forbids : GoodIn wsX8_send (wsV RX8 157 RX4 yX4_forbids wsX4_forbids) := goodIn_app (goodIn_of _ (by decide +kernel)) ggX8_send_X4_forbids
set_option maxRecDepth 20000 in
theorem ggX8_send_X4_place : GoodIn wsX8_send wsX4_place := goodIn_r _ [57, 28, 41, 79, 80] (by decide +kernel) (by decide +kernel)
set_option maxRecDepth 20000 in
theorem gX8_send_X4_place : GoodIn wsX8_send (wsV RX8 161 RX4 yX4_place wsX4_place) := goodIn_app (goodIn_of _ (by decide +kernel)) ggX8_send_X4_place
set_option maxRecDepth 20000 in
theorem ggX8_send_X4_size : GoodIn wsX8_send wsX4_size := goodIn_r _ [61, 28, 79, 80] (by decide +kernel) (by decide +kernel)
set_option maxRecDepth 20000 in
theorem gX8_send_X4_size : GoodIn wsX8_send (wsV RX8 136 RX4 yX4_size wsX4_size) := goodIn_app (goodIn_of _ (by decide +kernel)) ggX8_send_X4_size
theorem dX8_send_0 : decode cX8_send 0 = .ok (.iload_n 1, 1) := by decide +kernel
theorem dX8_send_1 : decode cX8_send 1 = .ok (.ifCond .lt 25, 3) := by decide +kernel
theorem dX8_send_4 : decode cX8_send 4 = .ok (.iload_n 1, 1) := by decide +kernel
theorem dX8_send_5 : decode cX8_send 5 = .ok (.bipush 64, 2) := by decide +kernel
theorem dX8_send_7 : decode cX8_send 7 = .ok (.if_icmp .ge 19, 3) := by decide +kernel
theorem dX8_send_10 : decode cX8_send 10 = .ok (.iload 4, 2) := by decide +kernel
theorem dX8_send_12 : decode cX8_send 12 = .ok (.invokestatic 98, 3) := by decide +kernel
theorem dX8_send_15 : decode cX8_send 15 = .ok (.ifCond .eq 11, 3) := by decide +kernel
theorem dX8_send_18 : decode cX8_send 18 = .ok (.iload 5, 2) := by decide +kernel
theorem dX8_send_20 : decode cX8_send 20 = .ok (.invokestatic 98, 3) := by decide +kernel
theorem dX8_send_23 : decode cX8_send 23 = .ok (.ifCond .ne 5, 3) := by decide +kernel
theorem dX8_send_26 : decode cX8_send 26 = .ok (.iconst (-1), 1) := by decide +kernel
theorem dX8_send_27 : decode cX8_send 27 = .ok (.ireturn, 1) := by decide +kernel
theorem dX8_send_28 : decode cX8_send 28 = .ok (.aload_n 0, 1) := by decide +kernel
theorem dX8_send_29 : decode cX8_send 29 = .ok (.getfield 12, 3) := by decide +kernel
theorem dX8_send_32 : decode cX8_send 32 = .ok (.iload_n 2, 1) := by decide +kernel
theorem dX8_send_33 : decode cX8_send 33 = .ok (.invokevirtual 147, 3) := by decide +kernel
theorem dX8_send_36 : decode cX8_send 36 = .ok (.ifCond .eq 26, 3) := by decide +kernel
theorem dX8_send_39 : decode cX8_send 39 = .ok (.aload_n 0, 1) := by decide +kernel
theorem dX8_send_40 : decode cX8_send 40 = .ok (.getfield 12, 3) := by decide +kernel
theorem dX8_send_43 : decode cX8_send 43 = .ok (.iload_n 3, 1) := by decide +kernel
theorem dX8_send_44 : decode cX8_send 44 = .ok (.invokevirtual 147, 3) := by decide +kernel
theorem dX8_send_47 : decode cX8_send 47 = .ok (.ifCond .eq 15, 3) := by decide +kernel
theorem dX8_send_50 : decode cX8_send 50 = .ok (.aload_n 0, 1) := by decide +kernel
theorem dX8_send_51 : decode cX8_send 51 = .ok (.getfield 12, 3) := by decide +kernel
theorem dX8_send_54 : decode cX8_send 54 = .ok (.iload_n 2, 1) := by decide +kernel
theorem dX8_send_55 : decode cX8_send 55 = .ok (.iload_n 3, 1) := by decide +kernel
theorem dX8_send_56 : decode cX8_send 56 = .ok (.invokevirtual 150, 3) := by decide +kernel
theorem dX8_send_59 : decode cX8_send 59 = .ok (.ifCond .ne 5, 3) := by decide +kernel
theorem dX8_send_62 : decode cX8_send 62 = .ok (.iconst (-1), 1) := by decide +kernel
theorem dX8_send_63 : decode cX8_send 63 = .ok (.ireturn, 1) := by decide +kernel
theorem dX8_send_64 : decode cX8_send 64 = .ok (.aload_n 0, 1) := by decide +kernel
theorem dX8_send_65 : decode cX8_send 65 = .ok (.getfield 54, 3) := by decide +kernel
theorem dX8_send_68 : decode cX8_send 68 = .ok (.invokevirtual 153, 3) := by decide +kernel
theorem dX8_send_71 : decode cX8_send 71 = .ok (.ifCond .ne 18, 3) := by decide +kernel
theorem dX8_send_74 : decode cX8_send 74 = .ok (.aload_n 0, 1) := by decide +kernel
theorem dX8_send_75 : decode cX8_send 75 = .ok (.getfield 54, 3) := by decide +kernel
theorem dX8_send_78 : decode cX8_send 78 = .ok (.iload_n 1, 1) := by decide +kernel
theorem dX8_send_79 : decode cX8_send 79 = .ok (.iload_n 2, 1) := by decide +kernel
theorem dX8_send_80 : decode cX8_send 80 = .ok (.iload_n 3, 1) := by decide +kernel
theorem dX8_send_81 : decode cX8_send 81 = .ok (.iload 5, 2) := by decide +kernel
theorem dX8_send_83 : decode cX8_send 83 = .ok (.invokevirtual 157, 3) := by decide +kernel
theorem dX8_send_86 : decode cX8_send 86 = .ok (.ifCond .eq 5, 3) := by decide +kernel
theorem dX8_send_89 : decode cX8_send 89 = .ok (.iconst (-1), 1) := by decide +kernel
theorem dX8_send_90 : decode cX8_send 90 = .ok (.ireturn, 1) := by decide +kernel
theorem dX8_send_91 : decode cX8_send 91 = .ok (.aload_n 0, 1) := by decide +kernel
theorem dX8_send_92 : decode cX8_send 92 = .ok (.getfield 54, 3) := by decide +kernel
theorem dX8_send_95 : decode cX8_send 95 = .ok (.iload_n 1, 1) := by decide +kernel
theorem dX8_send_96 : decode cX8_send 96 = .ok (.iload_n 2, 1) := by decide +kernel
theorem dX8_send_97 : decode cX8_send 97 = .ok (.iload_n 3, 1) := by decide +kernel
theorem dX8_send_98 : decode cX8_send 98 = .ok (.iload 4, 2) := by decide +kernel
theorem dX8_send_100 : decode cX8_send 100 = .ok (.iload 5, 2) := by decide +kernel
theorem dX8_send_102 : decode cX8_send 102 = .ok (.iload 6, 2) := by decide +kernel
theorem dX8_send_104 : decode cX8_send 104 = .ok (.invokevirtual 161, 3) := by decide +kernel
theorem dX8_send_107 : decode cX8_send 107 = .ok (.aload_n 0, 1) := by decide +kernel
theorem dX8_send_108 : decode cX8_send 108 = .ok (.getfield 54, 3) := by decide +kernel
theorem dX8_send_111 : decode cX8_send 111 = .ok (.invokevirtual 136, 3) := by decide +kernel
theorem dX8_send_114 : decode cX8_send 114 = .ok (.ireturn, 1) := by decide +kernel
set_option maxRecDepth 20000 in
theorem ggX8_sent_X4_size : GoodIn wsX8_sent wsX4_size := goodIn_r _ [6, 7, 45, 46] (by decide +kernel) (by decide +kernel)
set_option maxRecDepth 20000 in
theorem gX8_sent_X4_size : GoodIn wsX8_sent (wsV RX8 136 RX4 yX4_size wsX4_size) := goodIn_app (goodIn_of _ (by decide +kernel)) ggX8_sent_X4_size
set_option maxRecDepth 20000 in
theorem ggX8_sent_X4_step : GoodIn wsX8_sent wsX4_step := goodIn_r _ [11, 12, 13, 14, 5, 15, 7, 16, 45, 46] (by decide +kernel) (by decide +kernel)
set_option maxRecDepth 20000 in
theorem gX8_sent_X4_step : GoodIn wsX8_sent (wsV RX8 165 RX4 yX4_step wsX4_step) := goodIn_app (goodIn_of _ (by decide +kernel)) ggX8_sent_X4_step
set_option maxRecDepth 20000 in
theorem ggX8_sent_X4_from : GoodIn wsX8_sent wsX4_from := goodIn_r _ [20, 12, 13, 14, 5, 15, 7, 16, 45, 46] (by decide +kernel) (by decide +kernel)
set_option maxRecDepth 20000 in
theorem gX8_sent_X4_from : GoodIn wsX8_sent (wsV RX8 168 RX4 yX4_from wsX4_from) := goodIn_app (goodIn_of _ (by decide +kernel)) ggX8_sent_X4_from
set_option maxRecDepth 20000 in
theorem ggX8_sent_X4_to : GoodIn wsX8_sent wsX4_to := goodIn_r _ [24, 12, 13, 14, 5, 15, 7, 16, 45, 46] (by decide +kernel) (by decide +kernel)
set_option maxRecDepth 20000 in
theorem gX8_sent_X4_to : GoodIn wsX8_sent (wsV RX8 171 RX4 yX4_to wsX4_to) := goodIn_app (goodIn_of _ (by decide +kernel)) ggX8_sent_X4_to
set_option maxRecDepth 20000 in
theorem ggX8_sent_X4_block : GoodIn wsX8_sent wsX4_block := goodIn_r _ [28, 12, 13, 14, 5, 15, 7, 16, 45, 46] (by decide +kernel) (by decide +kernel)
set_option maxRecDepth 20000 in
theorem gX8_sent_X4_block : GoodIn wsX8_sent (wsV RX8 174 RX4 yX4_block wsX4_block) := goodIn_app (goodIn_of _ (by decide +kernel)) ggX8_sent_X4_block
set_option maxRecDepth 20000 in
theorem ggX8_sent_X4_toBlock : GoodIn wsX8_sent wsX4_toBlock := goodIn_r _ [32, 12, 13, 14, 5, 15, 7, 16, 45, 46] (by decide +kernel) (by decide +kernel)
set_option maxRecDepth 20000 in
theorem gX8_sent_X4_toBlock : GoodIn wsX8_sent (wsV RX8 177 RX4 yX4_toBlock wsX4_toBlock) := goodIn_app (goodIn_of _ (by decide +kernel)) ggX8_sent_X4_toBlock
set_option maxRecDepth 20000 in
theorem ggX8_sent_X4_isAdded : GoodIn wsX8_sent wsX4_isAdded := goodIn_r _ [36, 12, 13, 14, 5, 15, 7, 16, 45, 46] (by decide +kernel) (by decide +kernel)
set_option maxRecDepth 20000 in
theorem gX8_sent_X4_isAdded : GoodIn wsX8_sent (wsV RX8 180 RX4 yX4_isAdded wsX4_isAdded) := goodIn_app (goodIn_of _ (by decide +kernel)) ggX8_sent_X4_isAdded
theorem dX8_sent_0 : decode cX8_sent 0 = .ok (.iload_n 1, 1) := by decide +kernel
theorem dX8_sent_1 : decode cX8_sent 1 = .ok (.ifCond .lt 14, 3) := by decide +kernel
theorem dX8_sent_4 : decode cX8_sent 4 = .ok (.iload_n 1, 1) := by decide +kernel
theorem dX8_sent_5 : decode cX8_sent 5 = .ok (.aload_n 0, 1) := by decide +kernel
theorem dX8_sent_6 : decode cX8_sent 6 = .ok (.getfield 54, 3) := by decide +kernel
theorem dX8_sent_9 : decode cX8_sent 9 = .ok (.invokevirtual 136, 3) := by decide +kernel
theorem dX8_sent_12 : decode cX8_sent 12 = .ok (.if_icmp .lt 5, 3) := by decide +kernel
theorem dX8_sent_15 : decode cX8_sent 15 = .ok (.iconst (-1), 1) := by decide +kernel
theorem dX8_sent_16 : decode cX8_sent 16 = .ok (.ireturn, 1) := by decide +kernel
theorem dX8_sent_17 : decode cX8_sent 17 = .ok (.iload_n 2, 1) := by decide +kernel
theorem dX8_sent_18 : decode cX8_sent 18 = .ok (.tableswitch 100 0 5 #[38, 47, 56, 65, 74, 83], 38) := by decide +kernel
theorem dX8_sent_56 : decode cX8_sent 56 = .ok (.aload_n 0, 1) := by decide +kernel
theorem dX8_sent_57 : decode cX8_sent 57 = .ok (.getfield 54, 3) := by decide +kernel
theorem dX8_sent_60 : decode cX8_sent 60 = .ok (.iload_n 1, 1) := by decide +kernel
theorem dX8_sent_61 : decode cX8_sent 61 = .ok (.invokevirtual 165, 3) := by decide +kernel
theorem dX8_sent_64 : decode cX8_sent 64 = .ok (.ireturn, 1) := by decide +kernel
theorem dX8_sent_65 : decode cX8_sent 65 = .ok (.aload_n 0, 1) := by decide +kernel
theorem dX8_sent_66 : decode cX8_sent 66 = .ok (.getfield 54, 3) := by decide +kernel
theorem dX8_sent_69 : decode cX8_sent 69 = .ok (.iload_n 1, 1) := by decide +kernel
theorem dX8_sent_70 : decode cX8_sent 70 = .ok (.invokevirtual 168, 3) := by decide +kernel
theorem dX8_sent_73 : decode cX8_sent 73 = .ok (.ireturn, 1) := by decide +kernel
theorem dX8_sent_74 : decode cX8_sent 74 = .ok (.aload_n 0, 1) := by decide +kernel
theorem dX8_sent_75 : decode cX8_sent 75 = .ok (.getfield 54, 3) := by decide +kernel
theorem dX8_sent_78 : decode cX8_sent 78 = .ok (.iload_n 1, 1) := by decide +kernel
theorem dX8_sent_79 : decode cX8_sent 79 = .ok (.invokevirtual 171, 3) := by decide +kernel
theorem dX8_sent_82 : decode cX8_sent 82 = .ok (.ireturn, 1) := by decide +kernel
theorem dX8_sent_83 : decode cX8_sent 83 = .ok (.aload_n 0, 1) := by decide +kernel
theorem dX8_sent_84 : decode cX8_sent 84 = .ok (.getfield 54, 3) := by decide +kernel
theorem dX8_sent_87 : decode cX8_sent 87 = .ok (.iload_n 1, 1) := by decide +kernel
theorem dX8_sent_88 : decode cX8_sent 88 = .ok (.invokevirtual 174, 3) := by decide +kernel
theorem dX8_sent_91 : decode cX8_sent 91 = .ok (.ireturn, 1) := by decide +kernel
theorem dX8_sent_92 : decode cX8_sent 92 = .ok (.aload_n 0, 1) := by decide +kernel
theorem dX8_sent_93 : decode cX8_sent 93 = .ok (.getfield 54, 3) := by decide +kernel
theorem dX8_sent_96 : decode cX8_sent 96 = .ok (.iload_n 1, 1) := by decide +kernel
theorem dX8_sent_97 : decode cX8_sent 97 = .ok (.invokevirtual 177, 3) := by decide +kernel
theorem dX8_sent_100 : decode cX8_sent 100 = .ok (.ireturn, 1) := by decide +kernel
theorem dX8_sent_101 : decode cX8_sent 101 = .ok (.aload_n 0, 1) := by decide +kernel
theorem dX8_sent_102 : decode cX8_sent 102 = .ok (.getfield 54, 3) := by decide +kernel
theorem dX8_sent_105 : decode cX8_sent 105 = .ok (.iload_n 1, 1) := by decide +kernel
theorem dX8_sent_106 : decode cX8_sent 106 = .ok (.invokevirtual 180, 3) := by decide +kernel
theorem dX8_sent_109 : decode cX8_sent 109 = .ok (.ifCond .eq 7, 3) := by decide +kernel
theorem dX8_sent_112 : decode cX8_sent 112 = .ok (.iconst 1, 1) := by decide +kernel
theorem dX8_sent_113 : decode cX8_sent 113 = .ok (.goto 4, 3) := by decide +kernel
theorem dX8_sent_116 : decode cX8_sent 116 = .ok (.iconst 0, 1) := by decide +kernel
theorem dX8_sent_117 : decode cX8_sent 117 = .ok (.ireturn, 1) := by decide +kernel
theorem dX8_sent_118 : decode cX8_sent 118 = .ok (.iconst (-1), 1) := by decide +kernel
theorem dX8_sent_119 : decode cX8_sent 119 = .ok (.ireturn, 1) := by decide +kernel
set_option maxRecDepth 20000 in
theorem ggX8_right_X8_isAsked : GoodIn wsX8_right wsX8_isAsked := goodIn_r _ [7, 8, 9, 10, 11, 12, 13, 14, 15, 16, 17, 18, 181, 182, 183, 184, 185, 186, 187, 188, 189] (by decide +kernel) (by decide +kernel)
set_option maxRecDepth 20000 in
theorem gX8_right_X8_isAsked : GoodIn wsX8_right (va_wsS RX8 183 yX8_isAsked wsX8_isAsked) := goodIn_app (goodIn_of _ (by decide +kernel)) ggX8_right_X8_isAsked
set_option maxRecDepth 20000 in
theorem ggX8_right_X6_firstWrong : GoodIn wsX8_right wsX6_firstWrong := goodIn_r _ [23, 24, 25, 26, 27, 28, 29, 30, 11, 31, 18, 32, 33, 34, 22, 35, 36, 37, 38, 39, 40, 41, 42, 43, 44, 45, 46, 47, 48, 49, 50, 51, 52, 53, 54, 55, 56, 57, 58, 59, 60, 61, 62, 63, 64, 65, 66, 67, 68, 69, 70, 71, 72, 6, 73, 74, 75, 76, 77, 78, 79, 80, 81, 82, 83, 84, 85, 86, 87, 88, 89, 90, 91, 92, 93, 94, 95, 96, 97, 98, 99, 100, 101, 102, 103, 104, 105, 106, 107, 108, 109, 110, 111, 112, 113, 114, 115, 116, 117, 118, 119, 120, 121, 122, 123, 124, 125, 126, 127, 128, 129, 130, 131, 132, 133, 134, 135, 136, 137, 138, 139, 140, 141, 9, 10, 12, 13, 14, 15, 16, 17, 142, 143, 144, 145, 146, 147, 148, 149, 150, 151, 152, 153, 154, 155, 156, 157, 158, 159, 160, 161, 162, 163, 164, 165, 166, 167, 168, 169, 170, 181, 182, 183, 184, 185, 186, 187, 188, 189, 190, 191, 192, 193, 194, 195, 196, 197, 198] (by decide +kernel) (by decide +kernel)
set_option maxRecDepth 20000 in
theorem gX8_right_X6_firstWrong : GoodIn wsX8_right (wsV RX8 187 RX6 yX6_firstWrong wsX6_firstWrong) := goodIn_app (goodIn_of _ (by decide +kernel)) ggX8_right_X6_firstWrong
set_option maxRecDepth 20000 in
theorem ggX8_right_X8_hostOfCell : GoodIn wsX8_right wsX8_hostOfCell := goodIn_r _ [140] (by decide +kernel) (by decide +kernel)
set_option maxRecDepth 20000 in
theorem gX8_right_X8_hostOfCell : GoodIn wsX8_right (va_wsS RX8 191 yX8_hostOfCell wsX8_hostOfCell) := goodIn_app (goodIn_of _ (by decide +kernel)) ggX8_right_X8_hostOfCell
set_option maxRecDepth 20000 in
theorem ggX8_right_X8_blockOfCell : GoodIn wsX8_right wsX8_blockOfCell := goodIn_r _ [146] (by decide +kernel) (by decide +kernel)
set_option maxRecDepth 20000 in
theorem gX8_right_X8_blockOfCell : GoodIn wsX8_right (va_wsS RX8 194 yX8_blockOfCell wsX8_blockOfCell) := goodIn_app (goodIn_of _ (by decide +kernel)) ggX8_right_X8_blockOfCell
theorem dX8_right_0 : decode cX8_right 0 = .ok (.aload_n 0, 1) := by decide +kernel
theorem dX8_right_1 : decode cX8_right 1 = .ok (.getfield 12, 3) := by decide +kernel
theorem dX8_right_4 : decode cX8_right 4 = .ok (.iload_n 1, 1) := by decide +kernel
theorem dX8_right_5 : decode cX8_right 5 = .ok (.iload_n 2, 1) := by decide +kernel
theorem dX8_right_6 : decode cX8_right 6 = .ok (.invokestatic 183, 3) := by decide +kernel
theorem dX8_right_9 : decode cX8_right 9 = .ok (.ifCond .ne 5, 3) := by decide +kernel
theorem dX8_right_12 : decode cX8_right 12 = .ok (.iconst 2, 1) := by decide +kernel
theorem dX8_right_13 : decode cX8_right 13 = .ok (.ireturn, 1) := by decide +kernel
theorem dX8_right_14 : decode cX8_right 14 = .ok (.aload_n 0, 1) := by decide +kernel
theorem dX8_right_15 : decode cX8_right 15 = .ok (.getfield 26, 3) := by decide +kernel
theorem dX8_right_18 : decode cX8_right 18 = .ok (.aload_n 0, 1) := by decide +kernel
theorem dX8_right_19 : decode cX8_right 19 = .ok (.getfield 54, 3) := by decide +kernel
theorem dX8_right_22 : decode cX8_right 22 = .ok (.aload_n 0, 1) := by decide +kernel
theorem dX8_right_23 : decode cX8_right 23 = .ok (.getfield 12, 3) := by decide +kernel
theorem dX8_right_26 : decode cX8_right 26 = .ok (.iload_n 1, 1) := by decide +kernel
theorem dX8_right_27 : decode cX8_right 27 = .ok (.iload_n 2, 1) := by decide +kernel
theorem dX8_right_28 : decode cX8_right 28 = .ok (.invokevirtual 187, 3) := by decide +kernel
theorem dX8_right_31 : decode cX8_right 31 = .ok (.istore_n 3, 1) := by decide +kernel
theorem dX8_right_32 : decode cX8_right 32 = .ok (.iload_n 3, 1) := by decide +kernel
theorem dX8_right_33 : decode cX8_right 33 = .ok (.sipush 256, 3) := by decide +kernel
theorem dX8_right_36 : decode cX8_right 36 = .ok (.if_icmp .lt 5, 3) := by decide +kernel
theorem dX8_right_39 : decode cX8_right 39 = .ok (.iconst 1, 1) := by decide +kernel
theorem dX8_right_40 : decode cX8_right 40 = .ok (.ireturn, 1) := by decide +kernel
theorem dX8_right_41 : decode cX8_right 41 = .ok (.bipush (-100), 2) := by decide +kernel
theorem dX8_right_43 : decode cX8_right 43 = .ok (.iload_n 3, 1) := by decide +kernel
theorem dX8_right_44 : decode cX8_right 44 = .ok (.invokestatic 191, 3) := by decide +kernel
theorem dX8_right_47 : decode cX8_right 47 = .ok (.imul, 1) := by decide +kernel
theorem dX8_right_48 : decode cX8_right 48 = .ok (.iload_n 3, 1) := by decide +kernel
theorem dX8_right_49 : decode cX8_right 49 = .ok (.invokestatic 194, 3) := by decide +kernel
theorem dX8_right_52 : decode cX8_right 52 = .ok (.isub, 1) := by decide +kernel
theorem dX8_right_53 : decode cX8_right 53 = .ok (.iconst 1, 1) := by decide +kernel
theorem dX8_right_54 : decode cX8_right 54 = .ok (.isub, 1) := by decide +kernel
theorem dX8_right_55 : decode cX8_right 55 = .ok (.ireturn, 1) := by decide +kernel
set_option maxRecDepth 20000 in
theorem ggX8_run_X1_follow : GoodIn wsX8_run wsX1_follow := goodIn_r _ [8, 9, 10, 11, 12, 13, 14, 15, 16, 17, 18, 19, 20, 21, 22, 23, 24, 25, 26, 27, 28, 29, 30, 31, 32, 33, 34, 35, 36, 37, 38, 39, 40, 41, 42, 43, 44, 45, 46, 47, 48, 49, 50, 51, 52, 53, 54, 55, 56, 57, 58, 59, 60, 61, 62, 63, 64, 65, 66, 67, 68, 69, 70, 71, 72, 73, 74, 75, 76, 7, 77, 78, 79, 80, 81, 82, 83, 84, 85, 86, 87, 88, 89, 90, 91, 92, 93, 94, 95, 96, 97, 98, 111, 112, 113, 114, 115, 116, 117, 118, 119] (by decide +kernel) (by decide +kernel)
set_option maxRecDepth 20000 in
theorem gX8_run_X1_follow_u197X2 : GoodIn wsX8_run (va_wsU RX8 197 RX2 "SumsToAll$Follower" ⟨"SumsToAll$Heaps", "follow", "(LSumsToAll$Plan;)V"⟩ yX1_follow wsX1_follow) := goodIn_app (goodIn_of _ (by decide +kernel)) ggX8_run_X1_follow
set_option maxRecDepth 20000 in
theorem ggX8_run_X4_steps : GoodIn wsX8_run wsX4_steps := goodIn_r _ [102, 14, 27, 111, 112] (by decide +kernel) (by decide +kernel)
set_option maxRecDepth 20000 in
theorem gX8_run_X4_steps : GoodIn wsX8_run (wsV RX8 137 RX4 yX4_steps wsX4_steps) := goodIn_app (goodIn_of _ (by decide +kernel)) ggX8_run_X4_steps
theorem dX8_run_0 : decode cX8_run 0 = .ok (.aload_n 0, 1) := by decide +kernel
theorem dX8_run_1 : decode cX8_run 1 = .ok (.getfield 19, 3) := by decide +kernel
theorem dX8_run_4 : decode cX8_run 4 = .ok (.aload_n 0, 1) := by decide +kernel
theorem dX8_run_5 : decode cX8_run 5 = .ok (.getfield 54, 3) := by decide +kernel
theorem dX8_run_8 : decode cX8_run 8 = .ok (.invokevirtual 197, 3) := by decide +kernel
theorem dX8_run_11 : decode cX8_run 11 = .ok (.aload_n 0, 1) := by decide +kernel
theorem dX8_run_12 : decode cX8_run 12 = .ok (.getfield 54, 3) := by decide +kernel
theorem dX8_run_15 : decode cX8_run 15 = .ok (.invokevirtual 137, 3) := by decide +kernel
theorem dX8_run_18 : decode cX8_run 18 = .ok (.ireturn, 1) := by decide +kernel
set_option maxRecDepth 20000 in
theorem ggX8_ticks_X0_inStep : GoodIn wsX8_ticks wsX0_inStep := goodIn_r _ [8, 9, 10, 11, 12, 13, 14, 15, 16, 17, 18, 19, 20, 21, 22, 23, 24, 25, 26, 27, 28, 29, 30, 31, 32, 33, 34, 35, 36, 37, 38, 39, 40, 41, 42, 43, 44, 45, 46, 47, 48, 49, 50, 51, 52, 53, 54, 55, 56, 57, 66, 67, 68, 69, 70, 71, 72, 73, 74, 75, 76] (by decide +kernel) (by decide +kernel)
set_option maxRecDepth 20000 in
theorem gX8_ticks_X0_inStep : GoodIn wsX8_ticks (wsV RX8 201 RX0 yX0_inStep wsX0_inStep) := goodIn_app (goodIn_of _ (by decide +kernel)) ggX8_ticks_X0_inStep
theorem dX8_ticks_0 : decode cX8_ticks 0 = .ok (.aload_n 0, 1) := by decide +kernel
theorem dX8_ticks_1 : decode cX8_ticks 1 = .ok (.getfield 33, 3) := by decide +kernel
theorem dX8_ticks_4 : decode cX8_ticks 4 = .ok (.aload_n 0, 1) := by decide +kernel
theorem dX8_ticks_5 : decode cX8_ticks 5 = .ok (.getfield 54, 3) := by decide +kernel
theorem dX8_ticks_8 : decode cX8_ticks 8 = .ok (.aload_n 0, 1) := by decide +kernel
theorem dX8_ticks_9 : decode cX8_ticks 9 = .ok (.getfield 12, 3) := by decide +kernel
theorem dX8_ticks_12 : decode cX8_ticks 12 = .ok (.invokevirtual 201, 3) := by decide +kernel
theorem dX8_ticks_15 : decode cX8_ticks 15 = .ok (.ireturn, 1) := by decide +kernel
set_option maxRecDepth 20000 in
theorem ggX8_freely_X3_isLive : GoodIn wsX8_freely wsX3_isLive := goodIn_r _ [8, 9, 10, 11, 12, 7, 13, 14, 95, 96, 97, 98, 99, 100, 101, 102, 103] (by decide +kernel) (by decide +kernel)
set_option maxRecDepth 20000 in
theorem gX8_freely_X3_isLive : GoodIn wsX8_freely (wsV RX8 147 RX3 yX3_isLive wsX3_isLive) := goodIn_app (goodIn_of _ (by decide +kernel)) ggX8_freely_X3_isLive
set_option maxRecDepth 20000 in
theorem ggX8_freely_X0_endOf : GoodIn wsX8_freely wsX0_endOf := goodIn_r _ [19, 20, 21, 22, 23, 24, 25, 26, 27, 28, 7, 29, 30, 10, 11, 12, 13, 14, 31, 32, 33, 34, 35, 36, 37, 38, 39, 40, 41, 42, 43, 44, 45, 46, 47, 48, 49, 50, 51, 52, 53, 54, 55, 56, 18, 57, 58, 59, 60, 61, 62, 63, 64, 65, 66, 67, 68, 69, 70, 71, 72, 73, 74, 75, 76, 77, 78, 79, 80, 81, 82, 83, 84, 85, 86, 104, 105, 95, 96, 97, 98, 99, 100, 101, 102, 103, 106, 107] (by decide +kernel) (by decide +kernel)
set_option maxRecDepth 20000 in
theorem gX8_freely_X0_endOf : GoodIn wsX8_freely (wsV RX8 205 RX0 yX0_endOf wsX0_endOf) := goodIn_app (goodIn_of _ (by decide +kernel)) ggX8_freely_X0_endOf
theorem dX8_freely_0 : decode cX8_freely 0 = .ok (.aload_n 0, 1) := by decide +kernel
theorem dX8_freely_1 : decode cX8_freely 1 = .ok (.getfield 12, 3) := by decide +kernel
theorem dX8_freely_4 : decode cX8_freely 4 = .ok (.iload_n 1, 1) := by decide +kernel
theorem dX8_freely_5 : decode cX8_freely 5 = .ok (.invokevirtual 147, 3) := by decide +kernel
theorem dX8_freely_8 : decode cX8_freely 8 = .ok (.ifCond .ne 5, 3) := by decide +kernel
theorem dX8_freely_11 : decode cX8_freely 11 = .ok (.iconst (-1), 1) := by decide +kernel
theorem dX8_freely_12 : decode cX8_freely 12 = .ok (.ireturn, 1) := by decide +kernel
theorem dX8_freely_13 : decode cX8_freely 13 = .ok (.aload_n 0, 1) := by decide +kernel
theorem dX8_freely_14 : decode cX8_freely 14 = .ok (.getfield 33, 3) := by decide +kernel
theorem dX8_freely_17 : decode cX8_freely 17 = .ok (.iload_n 1, 1) := by decide +kernel
theorem dX8_freely_18 : decode cX8_freely 18 = .ok (.aload_n 0, 1) := by decide +kernel
theorem dX8_freely_19 : decode cX8_freely 19 = .ok (.getfield 54, 3) := by decide +kernel
theorem dX8_freely_22 : decode cX8_freely 22 = .ok (.aload_n 0, 1) := by decide +kernel
theorem dX8_freely_23 : decode cX8_freely 23 = .ok (.getfield 12, 3) := by decide +kernel
theorem dX8_freely_26 : decode cX8_freely 26 = .ok (.invokevirtual 205, 3) := by decide +kernel
theorem dX8_freely_29 : decode cX8_freely 29 = .ok (.ireturn, 1) := by decide +kernel
set_option maxRecDepth 20000 in
theorem ggX8_best_X8_isAsked : GoodIn wsX8_best wsX8_isAsked := goodIn_r _ [7, 8, 9, 10, 11, 12, 13, 14, 15, 16, 17, 18, 190, 191, 192, 193, 194, 195, 196, 197, 198] (by decide +kernel) (by decide +kernel)
set_option maxRecDepth 20000 in
theorem gX8_best_X8_isAsked : GoodIn wsX8_best (va_wsS RX8 183 yX8_isAsked wsX8_isAsked) := goodIn_app (goodIn_of _ (by decide +kernel)) ggX8_best_X8_isAsked
set_option maxRecDepth 20000 in
theorem ggX8_best_X7_draw : GoodIn wsX8_best wsX7_draw := goodIn_r _ [23, 24, 25, 26, 27, 5, 6, 7, 8, 9, 10, 11, 12, 13, 14, 15, 16, 17, 18, 28, 29, 30, 22, 31, 32, 33, 34, 35, 36, 37, 38, 39, 40, 41, 42, 43, 44, 45, 46, 47, 48, 49, 50, 51, 52, 53, 54, 55, 56, 57, 58, 59, 60, 61, 62, 63, 64, 65, 66, 67, 68, 69, 70, 71, 72, 73, 74, 75, 76, 77, 78, 79, 80, 81, 82, 83, 84, 85, 86, 87, 88, 89, 90, 91, 92, 93, 94, 95, 96, 97, 98, 99, 100, 101, 102, 103, 104, 105, 106, 107, 108, 109, 110, 111, 112, 113, 114, 115, 116, 117, 118, 119, 120, 121, 122, 123, 124, 125, 126, 127, 128, 129, 130, 199, 200, 201, 202, 203, 204, 190, 191, 192, 193, 194, 195, 196, 197, 198, 205, 206] (by decide +kernel) (by decide +kernel)
set_option maxRecDepth 20000 in
theorem gX8_best_X7_draw : GoodIn wsX8_best (wsV RX8 143 RX7 yX7_draw wsX7_draw) := goodIn_app (goodIn_of _ (by decide +kernel)) ggX8_best_X7_draw
set_option maxRecDepth 20000 in
theorem ggX8_best_X8_draftTicks : GoodIn wsX8_best wsX8_draftTicks := goodIn_r _ [134, 135, 3, 1, 136, 137, 138, 139, 140, 141, 142, 143, 144, 145, 146, 147, 38, 148, 40, 149, 150, 151, 152, 153, 154, 155, 156, 90, 157, 158, 159, 160, 161, 162, 163, 164, 165, 166, 167, 11, 168, 85, 169, 170, 82, 83, 84, 171, 172, 173, 174, 175, 176, 177, 178, 179, 180, 181, 182, 183, 184, 185, 186, 187, 188, 189, 205, 206, 190, 191, 192, 193, 194, 195, 196, 197, 198] (by decide +kernel) (by decide +kernel)
set_option maxRecDepth 20000 in
theorem gX8_best_X8_draftTicks : GoodIn wsX8_best (wsV RX8 209 RX8 yX8_draftTicks wsX8_draftTicks) := goodIn_app (goodIn_of _ (by decide +kernel)) ggX8_best_X8_draftTicks
theorem dX8_best_0 : decode cX8_best 0 = .ok (.aload_n 0, 1) := by decide +kernel
theorem dX8_best_1 : decode cX8_best 1 = .ok (.getfield 12, 3) := by decide +kernel
theorem dX8_best_4 : decode cX8_best 4 = .ok (.iload_n 1, 1) := by decide +kernel
theorem dX8_best_5 : decode cX8_best 5 = .ok (.iload_n 2, 1) := by decide +kernel
theorem dX8_best_6 : decode cX8_best 6 = .ok (.invokestatic 183, 3) := by decide +kernel
theorem dX8_best_9 : decode cX8_best 9 = .ok (.ifCond .ne 5, 3) := by decide +kernel
theorem dX8_best_12 : decode cX8_best 12 = .ok (.iconst (-1), 1) := by decide +kernel
theorem dX8_best_13 : decode cX8_best 13 = .ok (.ireturn, 1) := by decide +kernel
theorem dX8_best_14 : decode cX8_best 14 = .ok (.iconst 0, 1) := by decide +kernel
theorem dX8_best_15 : decode cX8_best 15 = .ok (.istore_n 3, 1) := by decide +kernel
theorem dX8_best_16 : decode cX8_best 16 = .ok (.bipush (-2), 2) := by decide +kernel
theorem dX8_best_18 : decode cX8_best 18 = .ok (.istore 4, 2) := by decide +kernel
theorem dX8_best_20 : decode cX8_best 20 = .ok (.iconst 0, 1) := by decide +kernel
theorem dX8_best_21 : decode cX8_best 21 = .ok (.istore 5, 2) := by decide +kernel
theorem dX8_best_23 : decode cX8_best 23 = .ok (.iload 5, 2) := by decide +kernel
theorem dX8_best_25 : decode cX8_best 25 = .ok (.iconst 3, 1) := by decide +kernel
theorem dX8_best_26 : decode cX8_best 26 = .ok (.if_icmp .gt 59, 3) := by decide +kernel
theorem dX8_best_29 : decode cX8_best 29 = .ok (.aload_n 0, 1) := by decide +kernel
theorem dX8_best_30 : decode cX8_best 30 = .ok (.aload_n 0, 1) := by decide +kernel
theorem dX8_best_31 : decode cX8_best 31 = .ok (.getfield 40, 3) := by decide +kernel
theorem dX8_best_34 : decode cX8_best 34 = .ok (.aload_n 0, 1) := by decide +kernel
theorem dX8_best_35 : decode cX8_best 35 = .ok (.getfield 58, 3) := by decide +kernel
theorem dX8_best_38 : decode cX8_best 38 = .ok (.aload_n 0, 1) := by decide +kernel
theorem dX8_best_39 : decode cX8_best 39 = .ok (.getfield 12, 3) := by decide +kernel
theorem dX8_best_42 : decode cX8_best 42 = .ok (.iload 5, 2) := by decide +kernel
theorem dX8_best_44 : decode cX8_best 44 = .ok (.iload_n 1, 1) := by decide +kernel
theorem dX8_best_45 : decode cX8_best 45 = .ok (.iload_n 2, 1) := by decide +kernel
theorem dX8_best_46 : decode cX8_best 46 = .ok (.invokevirtual 143, 3) := by decide +kernel
theorem dX8_best_49 : decode cX8_best 49 = .ok (.invokevirtual 209, 3) := by decide +kernel
theorem dX8_best_52 : decode cX8_best 52 = .ok (.istore 6, 2) := by decide +kernel
theorem dX8_best_54 : decode cX8_best 54 = .ok (.iload 6, 2) := by decide +kernel
theorem dX8_best_56 : decode cX8_best 56 = .ok (.ifCond .lt 23, 3) := by decide +kernel
theorem dX8_best_59 : decode cX8_best 59 = .ok (.iload 4, 2) := by decide +kernel
theorem dX8_best_61 : decode cX8_best 61 = .ok (.bipush (-2), 2) := by decide +kernel
theorem dX8_best_63 : decode cX8_best 63 = .ok (.if_icmp .eq 9, 3) := by decide +kernel
theorem dX8_best_66 : decode cX8_best 66 = .ok (.iload 6, 2) := by decide +kernel
theorem dX8_best_68 : decode cX8_best 68 = .ok (.iload_n 3, 1) := by decide +kernel
theorem dX8_best_69 : decode cX8_best 69 = .ok (.if_icmp .ge 10, 3) := by decide +kernel
theorem dX8_best_72 : decode cX8_best 72 = .ok (.iload 6, 2) := by decide +kernel
theorem dX8_best_74 : decode cX8_best 74 = .ok (.istore_n 3, 1) := by decide +kernel
theorem dX8_best_75 : decode cX8_best 75 = .ok (.iload 5, 2) := by decide +kernel
theorem dX8_best_77 : decode cX8_best 77 = .ok (.istore 4, 2) := by decide +kernel
theorem dX8_best_79 : decode cX8_best 79 = .ok (.iinc 5 1, 3) := by decide +kernel
theorem dX8_best_82 : decode cX8_best 82 = .ok (.goto (-59), 3) := by decide +kernel
theorem dX8_best_85 : decode cX8_best 85 = .ok (.iload 4, 2) := by decide +kernel
theorem dX8_best_87 : decode cX8_best 87 = .ok (.ireturn, 1) := by decide +kernel
set_option maxRecDepth 20000 in
theorem ggX8_price_X7_draw : GoodIn wsX8_price wsX7_draw := goodIn_r _ [8, 9, 10, 11, 12, 13, 14, 15, 16, 17, 18, 19, 20, 21, 22, 23, 24, 25, 26, 27, 28, 29, 7, 30, 31, 32, 33, 34, 35, 36, 37, 38, 39, 40, 41, 42, 43, 44, 45, 46, 47, 48, 49, 50, 51, 52, 53, 54, 55, 56, 57, 58, 59, 60, 61, 62, 63, 64, 65, 66, 67, 68, 69, 70, 71, 72, 73, 74, 75, 76, 77, 78, 79, 80, 81, 82, 83, 84, 85, 86, 87, 88, 89, 90, 91, 92, 93, 94, 95, 96, 97, 98, 99, 100, 101, 102, 103, 104, 105, 106, 107, 108, 109, 110, 111, 112, 113, 114, 115, 116, 117, 118, 119, 120, 121, 122, 123, 124, 125, 126, 127, 128, 129, 189, 190, 191, 192, 193, 194, 195, 196, 197, 198, 199, 200, 201, 202, 203, 204, 205] (by decide +kernel) (by decide +kernel)
set_option maxRecDepth 20000 in
theorem gX8_price_X7_draw : GoodIn wsX8_price (wsV RX8 143 RX7 yX7_draw wsX7_draw) := goodIn_app (goodIn_of _ (by decide +kernel)) ggX8_price_X7_draw
set_option maxRecDepth 20000 in
theorem ggX8_price_X8_draftTicks : GoodIn wsX8_price wsX8_draftTicks := goodIn_r _ [133, 134, 2, 3, 135, 136, 137, 138, 139, 140, 141, 142, 143, 144, 145, 146, 37, 147, 39, 148, 149, 150, 151, 152, 153, 154, 155, 89, 156, 157, 158, 159, 160, 161, 162, 163, 164, 165, 166, 19, 167, 84, 168, 169, 81, 82, 83, 170, 171, 172, 173, 174, 175, 176, 177, 178, 179, 180, 181, 182, 183, 184, 185, 186, 187, 188, 204, 205, 195, 196, 197, 198, 199, 200, 201, 202, 203] (by decide +kernel) (by decide +kernel)
set_option maxRecDepth 20000 in
theorem gX8_price_X8_draftTicks : GoodIn wsX8_price (wsV RX8 209 RX8 yX8_draftTicks wsX8_draftTicks) := goodIn_app (goodIn_of _ (by decide +kernel)) ggX8_price_X8_draftTicks
theorem dX8_price_0 : decode cX8_price 0 = .ok (.aload_n 0, 1) := by decide +kernel
theorem dX8_price_1 : decode cX8_price 1 = .ok (.aload_n 0, 1) := by decide +kernel
theorem dX8_price_2 : decode cX8_price 2 = .ok (.getfield 40, 3) := by decide +kernel
theorem dX8_price_5 : decode cX8_price 5 = .ok (.aload_n 0, 1) := by decide +kernel
theorem dX8_price_6 : decode cX8_price 6 = .ok (.getfield 58, 3) := by decide +kernel
theorem dX8_price_9 : decode cX8_price 9 = .ok (.aload_n 0, 1) := by decide +kernel
theorem dX8_price_10 : decode cX8_price 10 = .ok (.getfield 12, 3) := by decide +kernel
theorem dX8_price_13 : decode cX8_price 13 = .ok (.iload_n 1, 1) := by decide +kernel
theorem dX8_price_14 : decode cX8_price 14 = .ok (.iload_n 2, 1) := by decide +kernel
theorem dX8_price_15 : decode cX8_price 15 = .ok (.iload_n 3, 1) := by decide +kernel
theorem dX8_price_16 : decode cX8_price 16 = .ok (.invokevirtual 143, 3) := by decide +kernel
theorem dX8_price_19 : decode cX8_price 19 = .ok (.invokevirtual 209, 3) := by decide +kernel
theorem dX8_price_22 : decode cX8_price 22 = .ok (.ireturn, 1) := by decide +kernel
set_option maxRecDepth 20000 in
theorem ggX8_fewest_X3_isLive : GoodIn wsX8_fewest wsX3_isLive := goodIn_r _ [7, 8, 9, 10, 11, 6, 12, 13, 70, 71, 72, 73, 74, 75, 76, 77, 78] (by decide +kernel) (by decide +kernel)
set_option maxRecDepth 20000 in
theorem gX8_fewest_X3_isLive : GoodIn wsX8_fewest (wsV RX8 147 RX3 yX3_isLive wsX3_isLive) := goodIn_app (goodIn_of _ (by decide +kernel)) ggX8_fewest_X3_isLive
set_option maxRecDepth 20000 in
theorem ggX8_fewest_X3_ranks : GoodIn wsX8_fewest wsX3_ranks := goodIn_r _ [17, 18, 70, 71, 72, 73, 74, 75, 76, 77, 78] (by decide +kernel) (by decide +kernel)
set_option maxRecDepth 20000 in
theorem gX8_fewest_X3_ranks : GoodIn wsX8_fewest (wsV RX8 133 RX3 yX3_ranks wsX3_ranks) := goodIn_app (goodIn_of _ (by decide +kernel)) ggX8_fewest_X3_ranks
set_option maxRecDepth 20000 in
theorem ggX8_fewest_X3_rankOf : GoodIn wsX8_fewest wsX3_rankOf := goodIn_r _ [22, 23, 24, 4, 5, 6, 7, 8, 9, 10, 11, 12, 13, 70, 71, 72, 73, 74, 75, 76, 77, 78] (by decide +kernel) (by decide +kernel)
set_option maxRecDepth 20000 in
theorem gX8_fewest_X3_rankOf : GoodIn wsX8_fewest (wsV RX8 212 RX3 yX3_rankOf wsX3_rankOf) := goodIn_app (goodIn_of _ (by decide +kernel)) ggX8_fewest_X3_rankOf
set_option maxRecDepth 20000 in
theorem ggX8_fewest_X5_leastSteps : GoodIn wsX8_fewest wsX5_leastSteps := goodIn_r _ [29, 30, 31, 32, 33, 15, 16, 6, 17, 18, 34, 35, 36, 28, 37, 38, 39, 40, 41, 42, 43, 44, 45, 46, 47, 48, 49, 50, 51, 52, 53, 54, 55, 56, 57, 58, 59, 60, 61, 79, 80, 81, 82, 83, 70, 71, 72, 73, 74, 75, 76, 77, 78] (by decide +kernel) (by decide +kernel)
set_option maxRecDepth 20000 in
theorem gX8_fewest_X5_leastSteps : GoodIn wsX8_fewest (wsV RX8 215 RX5 yX5_leastSteps wsX5_leastSteps) := goodIn_app (goodIn_of _ (by decide +kernel)) ggX8_fewest_X5_leastSteps
theorem dX8_fewest_0 : decode cX8_fewest 0 = .ok (.aload_n 0, 1) := by decide +kernel
theorem dX8_fewest_1 : decode cX8_fewest 1 = .ok (.getfield 12, 3) := by decide +kernel
theorem dX8_fewest_4 : decode cX8_fewest 4 = .ok (.iload_n 1, 1) := by decide +kernel
theorem dX8_fewest_5 : decode cX8_fewest 5 = .ok (.invokevirtual 147, 3) := by decide +kernel
theorem dX8_fewest_8 : decode cX8_fewest 8 = .ok (.ifCond .eq 15, 3) := by decide +kernel
theorem dX8_fewest_11 : decode cX8_fewest 11 = .ok (.aload_n 0, 1) := by decide +kernel
theorem dX8_fewest_12 : decode cX8_fewest 12 = .ok (.getfield 12, 3) := by decide +kernel
theorem dX8_fewest_15 : decode cX8_fewest 15 = .ok (.invokevirtual 133, 3) := by decide +kernel
theorem dX8_fewest_18 : decode cX8_fewest 18 = .ok (.bipush 8, 2) := by decide +kernel
theorem dX8_fewest_20 : decode cX8_fewest 20 = .ok (.if_icmp .le 5, 3) := by decide +kernel
theorem dX8_fewest_23 : decode cX8_fewest 23 = .ok (.iconst (-1), 1) := by decide +kernel
theorem dX8_fewest_24 : decode cX8_fewest 24 = .ok (.ireturn, 1) := by decide +kernel
theorem dX8_fewest_25 : decode cX8_fewest 25 = .ok (.aload_n 0, 1) := by decide +kernel
theorem dX8_fewest_26 : decode cX8_fewest 26 = .ok (.getfield 47, 3) := by decide +kernel
theorem dX8_fewest_29 : decode cX8_fewest 29 = .ok (.aload_n 0, 1) := by decide +kernel
theorem dX8_fewest_30 : decode cX8_fewest 30 = .ok (.getfield 12, 3) := by decide +kernel
theorem dX8_fewest_33 : decode cX8_fewest 33 = .ok (.aload_n 0, 1) := by decide +kernel
theorem dX8_fewest_34 : decode cX8_fewest 34 = .ok (.getfield 12, 3) := by decide +kernel
theorem dX8_fewest_37 : decode cX8_fewest 37 = .ok (.iload_n 1, 1) := by decide +kernel
theorem dX8_fewest_38 : decode cX8_fewest 38 = .ok (.invokevirtual 212, 3) := by decide +kernel
theorem dX8_fewest_41 : decode cX8_fewest 41 = .ok (.invokevirtual 215, 3) := by decide +kernel
theorem dX8_fewest_44 : decode cX8_fewest 44 = .ok (.ireturn, 1) := by decide +kernel
set_option maxRecDepth 20000 in
theorem ggX8_draftTicks_X0_inStep : GoodIn wsX8_draftTicks wsX0_inStep := goodIn_r _ [8, 9, 10, 11, 12, 13, 14, 15, 16, 17, 18, 19, 20, 21, 22, 23, 24, 25, 26, 27, 28, 29, 30, 31, 32, 33, 34, 35, 36, 37, 38, 39, 40, 41, 42, 43, 44, 45, 46, 47, 48, 49, 50, 51, 52, 53, 54, 55, 56, 57, 66, 67, 68, 69, 70, 71, 72, 73, 74, 75, 76] (by decide +kernel) (by decide +kernel)
set_option maxRecDepth 20000 in
theorem gX8_draftTicks_X0_inStep : GoodIn wsX8_draftTicks (wsV RX8 201 RX0 yX0_inStep wsX0_inStep) := goodIn_app (goodIn_of _ (by decide +kernel)) ggX8_draftTicks_X0_inStep
theorem dX8_draftTicks_0 : decode cX8_draftTicks 0 = .ok (.iload_n 1, 1) := by decide +kernel
theorem dX8_draftTicks_1 : decode cX8_draftTicks 1 = .ok (.ifCond .ge 7, 3) := by decide +kernel
theorem dX8_draftTicks_4 : decode cX8_draftTicks 4 = .ok (.iload_n 1, 1) := by decide +kernel
theorem dX8_draftTicks_5 : decode cX8_draftTicks 5 = .ok (.goto 18, 3) := by decide +kernel
theorem dX8_draftTicks_8 : decode cX8_draftTicks 8 = .ok (.aload_n 0, 1) := by decide +kernel
theorem dX8_draftTicks_9 : decode cX8_draftTicks 9 = .ok (.getfield 33, 3) := by decide +kernel
theorem dX8_draftTicks_12 : decode cX8_draftTicks 12 = .ok (.aload_n 0, 1) := by decide +kernel
theorem dX8_draftTicks_13 : decode cX8_draftTicks 13 = .ok (.getfield 58, 3) := by decide +kernel
theorem dX8_draftTicks_16 : decode cX8_draftTicks 16 = .ok (.aload_n 0, 1) := by decide +kernel
theorem dX8_draftTicks_17 : decode cX8_draftTicks 17 = .ok (.getfield 12, 3) := by decide +kernel
theorem dX8_draftTicks_20 : decode cX8_draftTicks 20 = .ok (.invokevirtual 201, 3) := by decide +kernel
theorem dX8_draftTicks_23 : decode cX8_draftTicks 23 = .ok (.ireturn, 1) := by decide +kernel
set_option maxRecDepth 20000 in
theorem ggX8_isAsked_X3_isLive : GoodIn wsX8_isAsked wsX3_isLive := goodIn_r _ [5, 6, 7, 8, 9, 4, 10, 11, 12, 13, 14, 15, 16, 17, 18, 19, 20] (by decide +kernel) (by decide +kernel)
set_option maxRecDepth 20000 in
theorem gX8_isAsked_X3_isLive : GoodIn wsX8_isAsked (wsV RX8 147 RX3 yX3_isLive wsX3_isLive) := goodIn_app (goodIn_of _ (by decide +kernel)) ggX8_isAsked_X3_isLive
theorem dX8_isAsked_0 : decode cX8_isAsked 0 = .ok (.iload_n 1, 1) := by decide +kernel
theorem dX8_isAsked_1 : decode cX8_isAsked 1 = .ok (.ifCond .lt 20, 3) := by decide +kernel
theorem dX8_isAsked_4 : decode cX8_isAsked 4 = .ok (.iload_n 1, 1) := by decide +kernel
theorem dX8_isAsked_5 : decode cX8_isAsked 5 = .ok (.iconst 4, 1) := by decide +kernel
theorem dX8_isAsked_6 : decode cX8_isAsked 6 = .ok (.if_icmp .gt 15, 3) := by decide +kernel
theorem dX8_isAsked_9 : decode cX8_isAsked 9 = .ok (.aload_n 0, 1) := by decide +kernel
theorem dX8_isAsked_10 : decode cX8_isAsked 10 = .ok (.iload_n 2, 1) := by decide +kernel
theorem dX8_isAsked_11 : decode cX8_isAsked 11 = .ok (.invokevirtual 147, 3) := by decide +kernel
theorem dX8_isAsked_14 : decode cX8_isAsked 14 = .ok (.ifCond .eq 7, 3) := by decide +kernel
theorem dX8_isAsked_17 : decode cX8_isAsked 17 = .ok (.iconst 1, 1) := by decide +kernel
theorem dX8_isAsked_18 : decode cX8_isAsked 18 = .ok (.goto 4, 3) := by decide +kernel
theorem dX8_isAsked_21 : decode cX8_isAsked 21 = .ok (.iconst 0, 1) := by decide +kernel
theorem dX8_isAsked_22 : decode cX8_isAsked 22 = .ok (.ireturn, 1) := by decide +kernel
theorem dX8_isPace_0 : decode cX8_isPace 0 = .ok (.iload_n 0, 1) := by decide +kernel
theorem dX8_isPace_1 : decode cX8_isPace 1 = .ok (.ifCond .lt 26, 3) := by decide +kernel
theorem dX8_isPace_4 : decode cX8_isPace 4 = .ok (.iload_n 0, 1) := by decide +kernel
theorem dX8_isPace_5 : decode cX8_isPace 5 = .ok (.sipush 1000, 3) := by decide +kernel
theorem dX8_isPace_8 : decode cX8_isPace 8 = .ok (.if_icmp .gt 19, 3) := by decide +kernel
theorem dX8_isPace_11 : decode cX8_isPace 11 = .ok (.iload_n 1, 1) := by decide +kernel
theorem dX8_isPace_12 : decode cX8_isPace 12 = .ok (.iconst 1, 1) := by decide +kernel
theorem dX8_isPace_13 : decode cX8_isPace 13 = .ok (.if_icmp .lt 14, 3) := by decide +kernel
theorem dX8_isPace_16 : decode cX8_isPace 16 = .ok (.iload_n 1, 1) := by decide +kernel
theorem dX8_isPace_17 : decode cX8_isPace 17 = .ok (.sipush 1000, 3) := by decide +kernel
theorem dX8_isPace_20 : decode cX8_isPace 20 = .ok (.if_icmp .gt 7, 3) := by decide +kernel
theorem dX8_isPace_23 : decode cX8_isPace 23 = .ok (.iconst 1, 1) := by decide +kernel
theorem dX8_isPace_24 : decode cX8_isPace 24 = .ok (.goto 4, 3) := by decide +kernel
theorem dX8_isPace_27 : decode cX8_isPace 27 = .ok (.iconst 0, 1) := by decide +kernel
theorem dX8_isPace_28 : decode cX8_isPace 28 = .ok (.ireturn, 1) := by decide +kernel
theorem dX8_isBlock_0 : decode cX8_isBlock 0 = .ok (.iload_n 0, 1) := by decide +kernel
theorem dX8_isBlock_1 : decode cX8_isBlock 1 = .ok (.ifCond .lt 13, 3) := by decide +kernel
theorem dX8_isBlock_4 : decode cX8_isBlock 4 = .ok (.iload_n 0, 1) := by decide +kernel
theorem dX8_isBlock_5 : decode cX8_isBlock 5 = .ok (.bipush 16, 2) := by decide +kernel
theorem dX8_isBlock_7 : decode cX8_isBlock 7 = .ok (.if_icmp .ge 7, 3) := by decide +kernel
theorem dX8_isBlock_10 : decode cX8_isBlock 10 = .ok (.iconst 1, 1) := by decide +kernel
theorem dX8_isBlock_11 : decode cX8_isBlock 11 = .ok (.goto 4, 3) := by decide +kernel
theorem dX8_isBlock_14 : decode cX8_isBlock 14 = .ok (.iconst 0, 1) := by decide +kernel
theorem dX8_isBlock_15 : decode cX8_isBlock 15 = .ok (.ireturn, 1) := by decide +kernel
theorem dX8_cell_0 : decode cX8_cell 0 = .ok (.iload_n 0, 1) := by decide +kernel
theorem dX8_cell_1 : decode cX8_cell 1 = .ok (.bipush 16, 2) := by decide +kernel
theorem dX8_cell_3 : decode cX8_cell 3 = .ok (.imul, 1) := by decide +kernel
theorem dX8_cell_4 : decode cX8_cell 4 = .ok (.iload_n 1, 1) := by decide +kernel
theorem dX8_cell_5 : decode cX8_cell 5 = .ok (.iadd, 1) := by decide +kernel
theorem dX8_cell_6 : decode cX8_cell 6 = .ok (.ireturn, 1) := by decide +kernel
theorem dX8_isCell_0 : decode cX8_isCell 0 = .ok (.iload_n 0, 1) := by decide +kernel
theorem dX8_isCell_1 : decode cX8_isCell 1 = .ok (.ifCond .lt 14, 3) := by decide +kernel
theorem dX8_isCell_4 : decode cX8_isCell 4 = .ok (.iload_n 0, 1) := by decide +kernel
theorem dX8_isCell_5 : decode cX8_isCell 5 = .ok (.sipush 256, 3) := by decide +kernel
theorem dX8_isCell_8 : decode cX8_isCell 8 = .ok (.if_icmp .ge 7, 3) := by decide +kernel
theorem dX8_isCell_11 : decode cX8_isCell 11 = .ok (.iconst 1, 1) := by decide +kernel
theorem dX8_isCell_12 : decode cX8_isCell 12 = .ok (.goto 4, 3) := by decide +kernel
theorem dX8_isCell_15 : decode cX8_isCell 15 = .ok (.iconst 0, 1) := by decide +kernel
theorem dX8_isCell_16 : decode cX8_isCell 16 = .ok (.ireturn, 1) := by decide +kernel
theorem dX8_hostOfCell_0 : decode cX8_hostOfCell 0 = .ok (.iload_n 0, 1) := by decide +kernel
theorem dX8_hostOfCell_1 : decode cX8_hostOfCell 1 = .ok (.iconst 4, 1) := by decide +kernel
theorem dX8_hostOfCell_2 : decode cX8_hostOfCell 2 = .ok (.ishr, 1) := by decide +kernel
theorem dX8_hostOfCell_3 : decode cX8_hostOfCell 3 = .ok (.ireturn, 1) := by decide +kernel
theorem dX8_blockOfCell_0 : decode cX8_blockOfCell 0 = .ok (.iload_n 0, 1) := by decide +kernel
theorem dX8_blockOfCell_1 : decode cX8_blockOfCell 1 = .ok (.bipush 15, 2) := by decide +kernel
theorem dX8_blockOfCell_3 : decode cX8_blockOfCell 3 = .ok (.iand, 1) := by decide +kernel
theorem dX8_blockOfCell_4 : decode cX8_blockOfCell 4 = .ok (.ireturn, 1) := by decide +kernel
theorem dJ6_bitCount_0f7a4_0 : decode cJ6_bitCount_0f7a4 0 = .ok (.iload_n 0, 1) := by decide +kernel
theorem dJ6_bitCount_0f7a4_1 : decode cJ6_bitCount_0f7a4 1 = .ok (.iload_n 0, 1) := by decide +kernel
theorem dJ6_bitCount_0f7a4_2 : decode cJ6_bitCount_0f7a4 2 = .ok (.iconst 1, 1) := by decide +kernel
theorem dJ6_bitCount_0f7a4_3 : decode cJ6_bitCount_0f7a4 3 = .ok (.iushr, 1) := by decide +kernel
theorem dJ6_bitCount_0f7a4_4 : decode cJ6_bitCount_0f7a4 4 = .ok (.ldc_w 265, 3) := by decide +kernel
theorem dJ6_bitCount_0f7a4_7 : decode cJ6_bitCount_0f7a4 7 = .ok (.iand, 1) := by decide +kernel
theorem dJ6_bitCount_0f7a4_8 : decode cJ6_bitCount_0f7a4 8 = .ok (.isub, 1) := by decide +kernel
theorem dJ6_bitCount_0f7a4_9 : decode cJ6_bitCount_0f7a4 9 = .ok (.istore_n 0, 1) := by decide +kernel
theorem dJ6_bitCount_0f7a4_10 : decode cJ6_bitCount_0f7a4 10 = .ok (.iload_n 0, 1) := by decide +kernel
theorem dJ6_bitCount_0f7a4_11 : decode cJ6_bitCount_0f7a4 11 = .ok (.ldc_w 266, 3) := by decide +kernel
theorem dJ6_bitCount_0f7a4_14 : decode cJ6_bitCount_0f7a4 14 = .ok (.iand, 1) := by decide +kernel
theorem dJ6_bitCount_0f7a4_15 : decode cJ6_bitCount_0f7a4 15 = .ok (.iload_n 0, 1) := by decide +kernel
theorem dJ6_bitCount_0f7a4_16 : decode cJ6_bitCount_0f7a4 16 = .ok (.iconst 2, 1) := by decide +kernel
theorem dJ6_bitCount_0f7a4_17 : decode cJ6_bitCount_0f7a4 17 = .ok (.iushr, 1) := by decide +kernel
theorem dJ6_bitCount_0f7a4_18 : decode cJ6_bitCount_0f7a4 18 = .ok (.ldc_w 266, 3) := by decide +kernel
theorem dJ6_bitCount_0f7a4_21 : decode cJ6_bitCount_0f7a4 21 = .ok (.iand, 1) := by decide +kernel
theorem dJ6_bitCount_0f7a4_22 : decode cJ6_bitCount_0f7a4 22 = .ok (.iadd, 1) := by decide +kernel
theorem dJ6_bitCount_0f7a4_23 : decode cJ6_bitCount_0f7a4 23 = .ok (.istore_n 0, 1) := by decide +kernel
theorem dJ6_bitCount_0f7a4_24 : decode cJ6_bitCount_0f7a4 24 = .ok (.iload_n 0, 1) := by decide +kernel
theorem dJ6_bitCount_0f7a4_25 : decode cJ6_bitCount_0f7a4 25 = .ok (.iload_n 0, 1) := by decide +kernel
theorem dJ6_bitCount_0f7a4_26 : decode cJ6_bitCount_0f7a4 26 = .ok (.iconst 4, 1) := by decide +kernel
theorem dJ6_bitCount_0f7a4_27 : decode cJ6_bitCount_0f7a4 27 = .ok (.iushr, 1) := by decide +kernel
theorem dJ6_bitCount_0f7a4_28 : decode cJ6_bitCount_0f7a4 28 = .ok (.iadd, 1) := by decide +kernel
theorem dJ6_bitCount_0f7a4_29 : decode cJ6_bitCount_0f7a4 29 = .ok (.ldc_w 267, 3) := by decide +kernel
theorem dJ6_bitCount_0f7a4_32 : decode cJ6_bitCount_0f7a4 32 = .ok (.iand, 1) := by decide +kernel
theorem dJ6_bitCount_0f7a4_33 : decode cJ6_bitCount_0f7a4 33 = .ok (.istore_n 0, 1) := by decide +kernel
theorem dJ6_bitCount_0f7a4_34 : decode cJ6_bitCount_0f7a4 34 = .ok (.iload_n 0, 1) := by decide +kernel
theorem dJ6_bitCount_0f7a4_35 : decode cJ6_bitCount_0f7a4 35 = .ok (.iload_n 0, 1) := by decide +kernel
theorem dJ6_bitCount_0f7a4_36 : decode cJ6_bitCount_0f7a4 36 = .ok (.bipush 8, 2) := by decide +kernel
theorem dJ6_bitCount_0f7a4_38 : decode cJ6_bitCount_0f7a4 38 = .ok (.iushr, 1) := by decide +kernel
theorem dJ6_bitCount_0f7a4_39 : decode cJ6_bitCount_0f7a4 39 = .ok (.iadd, 1) := by decide +kernel
theorem dJ6_bitCount_0f7a4_40 : decode cJ6_bitCount_0f7a4 40 = .ok (.istore_n 0, 1) := by decide +kernel
theorem dJ6_bitCount_0f7a4_41 : decode cJ6_bitCount_0f7a4 41 = .ok (.iload_n 0, 1) := by decide +kernel
theorem dJ6_bitCount_0f7a4_42 : decode cJ6_bitCount_0f7a4 42 = .ok (.iload_n 0, 1) := by decide +kernel
theorem dJ6_bitCount_0f7a4_43 : decode cJ6_bitCount_0f7a4 43 = .ok (.bipush 16, 2) := by decide +kernel
theorem dJ6_bitCount_0f7a4_45 : decode cJ6_bitCount_0f7a4 45 = .ok (.iushr, 1) := by decide +kernel
theorem dJ6_bitCount_0f7a4_46 : decode cJ6_bitCount_0f7a4 46 = .ok (.iadd, 1) := by decide +kernel
theorem dJ6_bitCount_0f7a4_47 : decode cJ6_bitCount_0f7a4 47 = .ok (.istore_n 0, 1) := by decide +kernel
theorem dJ6_bitCount_0f7a4_48 : decode cJ6_bitCount_0f7a4 48 = .ok (.iload_n 0, 1) := by decide +kernel
theorem dJ6_bitCount_0f7a4_49 : decode cJ6_bitCount_0f7a4 49 = .ok (.bipush 63, 2) := by decide +kernel
theorem dJ6_bitCount_0f7a4_51 : decode cJ6_bitCount_0f7a4 51 = .ok (.iand, 1) := by decide +kernel
theorem dJ6_bitCount_0f7a4_52 : decode cJ6_bitCount_0f7a4 52 = .ok (.ireturn, 1) := by decide +kernel
theorem dJ9_max_7cf53_0 : decode cJ9_max_7cf53 0 = .ok (.iload_n 0, 1) := by decide +kernel
theorem dJ9_max_7cf53_1 : decode cJ9_max_7cf53 1 = .ok (.iload_n 1, 1) := by decide +kernel
theorem dJ9_max_7cf53_2 : decode cJ9_max_7cf53 2 = .ok (.if_icmp .lt 7, 3) := by decide +kernel
theorem dJ9_max_7cf53_5 : decode cJ9_max_7cf53 5 = .ok (.iload_n 0, 1) := by decide +kernel
theorem dJ9_max_7cf53_6 : decode cJ9_max_7cf53 6 = .ok (.goto 4, 3) := by decide +kernel
theorem dJ9_max_7cf53_9 : decode cJ9_max_7cf53 9 = .ok (.iload_n 1, 1) := by decide +kernel
theorem dJ9_max_7cf53_10 : decode cJ9_max_7cf53 10 = .ok (.ireturn, 1) := by decide +kernel
theorem dJ9_min_7cf53_0 : decode cJ9_min_7cf53 0 = .ok (.iload_n 0, 1) := by decide +kernel
theorem dJ9_min_7cf53_1 : decode cJ9_min_7cf53 1 = .ok (.iload_n 1, 1) := by decide +kernel
theorem dJ9_min_7cf53_2 : decode cJ9_min_7cf53 2 = .ok (.if_icmp .gt 7, 3) := by decide +kernel
theorem dJ9_min_7cf53_5 : decode cJ9_min_7cf53 5 = .ok (.iload_n 0, 1) := by decide +kernel
theorem dJ9_min_7cf53_6 : decode cJ9_min_7cf53 6 = .ok (.goto 4, 3) := by decide +kernel
theorem dJ9_min_7cf53_9 : decode cJ9_min_7cf53 9 = .ok (.iload_n 1, 1) := by decide +kernel
theorem dJ9_min_7cf53_10 : decode cJ9_min_7cf53 10 = .ok (.ireturn, 1) := by decide +kernel
theorem dJ7_fill_53178_0 : decode cJ7_fill_53178 0 = .ok (.iconst 0, 1) := by decide +kernel
theorem dJ7_fill_53178_1 : decode cJ7_fill_53178 1 = .ok (.istore_n 2, 1) := by decide +kernel
theorem dJ7_fill_53178_2 : decode cJ7_fill_53178 2 = .ok (.aload_n 0, 1) := by decide +kernel
theorem dJ7_fill_53178_3 : decode cJ7_fill_53178 3 = .ok (.arraylength, 1) := by decide +kernel
theorem dJ7_fill_53178_4 : decode cJ7_fill_53178 4 = .ok (.istore_n 3, 1) := by decide +kernel
theorem dJ7_fill_53178_5 : decode cJ7_fill_53178 5 = .ok (.iload_n 2, 1) := by decide +kernel
theorem dJ7_fill_53178_6 : decode cJ7_fill_53178 6 = .ok (.iload_n 3, 1) := by decide +kernel
theorem dJ7_fill_53178_7 : decode cJ7_fill_53178 7 = .ok (.if_icmp .ge 13, 3) := by decide +kernel
theorem dJ7_fill_53178_10 : decode cJ7_fill_53178 10 = .ok (.aload_n 0, 1) := by decide +kernel
theorem dJ7_fill_53178_11 : decode cJ7_fill_53178 11 = .ok (.iload_n 2, 1) := by decide +kernel
theorem dJ7_fill_53178_12 : decode cJ7_fill_53178 12 = .ok (.iload_n 1, 1) := by decide +kernel
theorem dJ7_fill_53178_13 : decode cJ7_fill_53178 13 = .ok (.iastore, 1) := by decide +kernel
theorem dJ7_fill_53178_14 : decode cJ7_fill_53178 14 = .ok (.iinc 2 1, 3) := by decide +kernel
theorem dJ7_fill_53178_17 : decode cJ7_fill_53178 17 = .ok (.goto (-12), 3) := by decide +kernel
theorem dJ7_fill_53178_20 : decode cJ7_fill_53178 20 = .ok (.return_, 1) := by decide +kernel
