set_option maxRecDepth 20000 in
theorem ggX11_init_X10_cellCount : GoodIn wsX11_init wsX10_cellCount := goodIn_r _ [15, 16, 17, 28, 29, 30, 31, 32, 33, 34, 35, 36, 37, 38, 39, 40, 41, 42, 43] (by decide +kernel) (by decide +kernel)
set_option maxRecDepth 20000 in
theorem gX11_init_X10_cellCount : GoodIn wsX11_init (wsV RX11 22 RX10 yX10_cellCount wsX10_cellCount) := goodIn_app (goodIn_of _ (by decide +kernel)) ggX11_init_X10_cellCount
set_option maxRecDepth 20000 in
theorem ggX11_init_X10_siblingCount : GoodIn wsX11_init wsX10_siblingCount := goodIn_r _ [21, 16, 22, 28, 29, 30, 31, 32, 33, 34, 35, 36, 37, 38, 39, 40, 41, 42, 43] (by decide +kernel) (by decide +kernel)
set_option maxRecDepth 20000 in
theorem gX11_init_X10_siblingCount : GoodIn wsX11_init (wsV RX11 32 RX10 yX10_siblingCount wsX10_siblingCount) := goodIn_app (goodIn_of _ (by decide +kernel)) ggX11_init_X10_siblingCount
theorem dX11_init_0 : decode cX11_init 0 = .ok (.aload_n 0, 1) := by decide +kernel
theorem dX11_init_1 : decode cX11_init 1 = .ok (.invokespecial 1, 3) := by decide +kernel
theorem dX11_init_4 : decode cX11_init 4 = .ok (.aload_n 0, 1) := by decide +kernel
theorem dX11_init_5 : decode cX11_init 5 = .ok (.bipush 6, 2) := by decide +kernel
theorem dX11_init_7 : decode cX11_init 7 = .ok (.bipush 24, 2) := by decide +kernel
theorem dX11_init_9 : decode cX11_init 9 = .ok (.multianewarray 7 2, 4) := by decide +kernel
theorem dX11_init_13 : decode cX11_init 13 = .ok (.putfield 9, 3) := by decide +kernel
theorem dX11_init_16 : decode cX11_init 16 = .ok (.aload_n 0, 1) := by decide +kernel
theorem dX11_init_17 : decode cX11_init 17 = .ok (.bipush 24, 2) := by decide +kernel
theorem dX11_init_19 : decode cX11_init 19 = .ok (.newarray .int, 2) := by decide +kernel
theorem dX11_init_21 : decode cX11_init 21 = .ok (.putfield 14, 3) := by decide +kernel
theorem dX11_init_24 : decode cX11_init 24 = .ok (.aload_n 0, 1) := by decide +kernel
theorem dX11_init_25 : decode cX11_init 25 = .ok (.aload_n 1, 1) := by decide +kernel
theorem dX11_init_26 : decode cX11_init 26 = .ok (.putfield 18, 3) := by decide +kernel
theorem dX11_init_29 : decode cX11_init 29 = .ok (.aload_n 0, 1) := by decide +kernel
theorem dX11_init_30 : decode cX11_init 30 = .ok (.aload_n 1, 1) := by decide +kernel
theorem dX11_init_31 : decode cX11_init 31 = .ok (.invokevirtual 22, 3) := by decide +kernel
theorem dX11_init_34 : decode cX11_init 34 = .ok (.putfield 28, 3) := by decide +kernel
theorem dX11_init_37 : decode cX11_init 37 = .ok (.aload_n 0, 1) := by decide +kernel
theorem dX11_init_38 : decode cX11_init 38 = .ok (.aload_n 1, 1) := by decide +kernel
theorem dX11_init_39 : decode cX11_init 39 = .ok (.invokevirtual 32, 3) := by decide +kernel
theorem dX11_init_42 : decode cX11_init 42 = .ok (.putfield 35, 3) := by decide +kernel
theorem dX11_init_45 : decode cX11_init 45 = .ok (.return_, 1) := by decide +kernel
set_option maxRecDepth 20000 in
theorem ggX11_read_X10_owner : GoodIn wsX11_read wsX10_owner := goodIn_ca (goodIn_r _ [10, 11, 12, 13, 14, 15, 9, 16, 17, 18, 19, 20, 21, 22, 23, 24, 48, 49, 50, 51, 52, 53, 54, 55, 56, 57, 58, 59, 60, 61, 62, 63] (by decide +kernel) (by decide +kernel)) (goodIn_sub (fun _ h => List.mem_cons_of_mem _ (List.mem_append_right _ h)) (by decide +kernel))
set_option maxRecDepth 20000 in
theorem gX11_read_X10_owner : GoodIn wsX11_read (wsV RX11 38 RX10 yX10_owner wsX10_owner) := goodIn_app (goodIn_of _ (by decide +kernel)) ggX11_read_X10_owner
set_option maxRecDepth 20000 in
theorem ggX11_read_X10_value : GoodIn wsX11_read wsX10_value := goodIn_ca (goodIn_r _ [28, 11, 29, 30, 31, 9, 32, 17, 18, 33, 34, 35, 22, 36, 37, 13, 14, 15, 16, 19, 20, 21, 23, 24, 38, 39, 40, 41, 42, 48, 49, 50, 51, 52, 53, 54, 55, 56, 57, 58, 59, 60, 61, 62, 63] (by decide +kernel) (by decide +kernel)) (goodIn_sub (fun _ h => List.mem_cons_of_mem _ (List.mem_append_right _ h)) (by decide +kernel))
set_option maxRecDepth 20000 in
theorem gX11_read_X10_value : GoodIn wsX11_read (wsV RX11 41 RX10 yX10_value wsX10_value) := goodIn_app (goodIn_of _ (by decide +kernel)) ggX11_read_X10_value
theorem dX11_read_0 : decode cX11_read 0 = .ok (.iconst 0, 1) := by decide +kernel
theorem dX11_read_1 : decode cX11_read 1 = .ok (.istore_n 1, 1) := by decide +kernel
theorem dX11_read_2 : decode cX11_read 2 = .ok (.iload_n 1, 1) := by decide +kernel
theorem dX11_read_3 : decode cX11_read 3 = .ok (.aload_n 0, 1) := by decide +kernel
theorem dX11_read_4 : decode cX11_read 4 = .ok (.getfield 28, 3) := by decide +kernel
theorem dX11_read_7 : decode cX11_read 7 = .ok (.if_icmp .ge 56, 3) := by decide +kernel
theorem dX11_read_10 : decode cX11_read 10 = .ok (.aload_n 0, 1) := by decide +kernel
theorem dX11_read_11 : decode cX11_read 11 = .ok (.getfield 14, 3) := by decide +kernel
theorem dX11_read_14 : decode cX11_read 14 = .ok (.iload_n 1, 1) := by decide +kernel
theorem dX11_read_15 : decode cX11_read 15 = .ok (.aload_n 0, 1) := by decide +kernel
theorem dX11_read_16 : decode cX11_read 16 = .ok (.getfield 18, 3) := by decide +kernel
theorem dX11_read_19 : decode cX11_read 19 = .ok (.iload_n 1, 1) := by decide +kernel
theorem dX11_read_20 : decode cX11_read 20 = .ok (.invokevirtual 38, 3) := by decide +kernel
theorem dX11_read_23 : decode cX11_read 23 = .ok (.iastore, 1) := by decide +kernel
theorem dX11_read_24 : decode cX11_read 24 = .ok (.iconst 0, 1) := by decide +kernel
theorem dX11_read_25 : decode cX11_read 25 = .ok (.istore_n 2, 1) := by decide +kernel
theorem dX11_read_26 : decode cX11_read 26 = .ok (.iload_n 2, 1) := by decide +kernel
theorem dX11_read_27 : decode cX11_read 27 = .ok (.aload_n 0, 1) := by decide +kernel
theorem dX11_read_28 : decode cX11_read 28 = .ok (.getfield 35, 3) := by decide +kernel
theorem dX11_read_31 : decode cX11_read 31 = .ok (.if_icmp .ge 26, 3) := by decide +kernel
theorem dX11_read_34 : decode cX11_read 34 = .ok (.aload_n 0, 1) := by decide +kernel
theorem dX11_read_35 : decode cX11_read 35 = .ok (.getfield 9, 3) := by decide +kernel
theorem dX11_read_38 : decode cX11_read 38 = .ok (.iload_n 2, 1) := by decide +kernel
theorem dX11_read_39 : decode cX11_read 39 = .ok (.aaload, 1) := by decide +kernel
theorem dX11_read_40 : decode cX11_read 40 = .ok (.iload_n 1, 1) := by decide +kernel
theorem dX11_read_41 : decode cX11_read 41 = .ok (.aload_n 0, 1) := by decide +kernel
theorem dX11_read_42 : decode cX11_read 42 = .ok (.getfield 18, 3) := by decide +kernel
theorem dX11_read_45 : decode cX11_read 45 = .ok (.iload_n 2, 1) := by decide +kernel
theorem dX11_read_46 : decode cX11_read 46 = .ok (.iload_n 1, 1) := by decide +kernel
theorem dX11_read_47 : decode cX11_read 47 = .ok (.invokevirtual 41, 3) := by decide +kernel
theorem dX11_read_50 : decode cX11_read 50 = .ok (.iastore, 1) := by decide +kernel
theorem dX11_read_51 : decode cX11_read 51 = .ok (.iinc 2 1, 3) := by decide +kernel
theorem dX11_read_54 : decode cX11_read 54 = .ok (.goto (-28), 3) := by decide +kernel
theorem dX11_read_57 : decode cX11_read 57 = .ok (.iinc 1 1, 3) := by decide +kernel
theorem dX11_read_60 : decode cX11_read 60 = .ok (.goto (-58), 3) := by decide +kernel
theorem dX11_read_63 : decode cX11_read 63 = .ok (.return_, 1) := by decide +kernel
theorem dX11_worth_0 : decode cX11_worth 0 = .ok (.iconst 0, 1) := by decide +kernel
theorem dX11_worth_1 : decode cX11_worth 1 = .ok (.istore_n 3, 1) := by decide +kernel
theorem dX11_worth_2 : decode cX11_worth 2 = .ok (.iconst 0, 1) := by decide +kernel
theorem dX11_worth_3 : decode cX11_worth 3 = .ok (.istore 4, 2) := by decide +kernel
theorem dX11_worth_5 : decode cX11_worth 5 = .ok (.iload 4, 2) := by decide +kernel
theorem dX11_worth_7 : decode cX11_worth 7 = .ok (.aload_n 0, 1) := by decide +kernel
theorem dX11_worth_8 : decode cX11_worth 8 = .ok (.getfield 28, 3) := by decide +kernel
theorem dX11_worth_11 : decode cX11_worth 11 = .ok (.if_icmp .ge 36, 3) := by decide +kernel
theorem dX11_worth_14 : decode cX11_worth 14 = .ok (.iload_n 3, 1) := by decide +kernel
theorem dX11_worth_15 : decode cX11_worth 15 = .ok (.aload_n 0, 1) := by decide +kernel
theorem dX11_worth_16 : decode cX11_worth 16 = .ok (.getfield 14, 3) := by decide +kernel
theorem dX11_worth_19 : decode cX11_worth 19 = .ok (.iload 4, 2) := by decide +kernel
theorem dX11_worth_21 : decode cX11_worth 21 = .ok (.iaload, 1) := by decide +kernel
theorem dX11_worth_22 : decode cX11_worth 22 = .ok (.iload_n 2, 1) := by decide +kernel
theorem dX11_worth_23 : decode cX11_worth 23 = .ok (.if_icmp .ne 15, 3) := by decide +kernel
theorem dX11_worth_26 : decode cX11_worth 26 = .ok (.aload_n 0, 1) := by decide +kernel
theorem dX11_worth_27 : decode cX11_worth 27 = .ok (.getfield 9, 3) := by decide +kernel
theorem dX11_worth_30 : decode cX11_worth 30 = .ok (.iload_n 1, 1) := by decide +kernel
theorem dX11_worth_31 : decode cX11_worth 31 = .ok (.aaload, 1) := by decide +kernel
theorem dX11_worth_32 : decode cX11_worth 32 = .ok (.iload 4, 2) := by decide +kernel
theorem dX11_worth_34 : decode cX11_worth 34 = .ok (.iaload, 1) := by decide +kernel
theorem dX11_worth_35 : decode cX11_worth 35 = .ok (.goto 4, 3) := by decide +kernel
theorem dX11_worth_38 : decode cX11_worth 38 = .ok (.iconst 0, 1) := by decide +kernel
theorem dX11_worth_39 : decode cX11_worth 39 = .ok (.iadd, 1) := by decide +kernel
theorem dX11_worth_40 : decode cX11_worth 40 = .ok (.istore_n 3, 1) := by decide +kernel
theorem dX11_worth_41 : decode cX11_worth 41 = .ok (.iinc 4 1, 3) := by decide +kernel
theorem dX11_worth_44 : decode cX11_worth 44 = .ok (.goto (-39), 3) := by decide +kernel
theorem dX11_worth_47 : decode cX11_worth 47 = .ok (.iload_n 3, 1) := by decide +kernel
theorem dX11_worth_48 : decode cX11_worth 48 = .ok (.ireturn, 1) := by decide +kernel
theorem dX11_sum_0 : decode cX11_sum 0 = .ok (.iconst 0, 1) := by decide +kernel
theorem dX11_sum_1 : decode cX11_sum 1 = .ok (.istore 4, 2) := by decide +kernel
theorem dX11_sum_3 : decode cX11_sum 3 = .ok (.iload_n 2, 1) := by decide +kernel
theorem dX11_sum_4 : decode cX11_sum 4 = .ok (.istore 5, 2) := by decide +kernel
theorem dX11_sum_6 : decode cX11_sum 6 = .ok (.iload 5, 2) := by decide +kernel
theorem dX11_sum_8 : decode cX11_sum 8 = .ok (.iload_n 3, 1) := by decide +kernel
theorem dX11_sum_9 : decode cX11_sum 9 = .ok (.if_icmp .ge 23, 3) := by decide +kernel
theorem dX11_sum_12 : decode cX11_sum 12 = .ok (.iload 4, 2) := by decide +kernel
theorem dX11_sum_14 : decode cX11_sum 14 = .ok (.aload_n 0, 1) := by decide +kernel
theorem dX11_sum_15 : decode cX11_sum 15 = .ok (.getfield 9, 3) := by decide +kernel
theorem dX11_sum_18 : decode cX11_sum 18 = .ok (.iload_n 1, 1) := by decide +kernel
theorem dX11_sum_19 : decode cX11_sum 19 = .ok (.aaload, 1) := by decide +kernel
theorem dX11_sum_20 : decode cX11_sum 20 = .ok (.iload 5, 2) := by decide +kernel
theorem dX11_sum_22 : decode cX11_sum 22 = .ok (.iaload, 1) := by decide +kernel
theorem dX11_sum_23 : decode cX11_sum 23 = .ok (.iadd, 1) := by decide +kernel
theorem dX11_sum_24 : decode cX11_sum 24 = .ok (.istore 4, 2) := by decide +kernel
theorem dX11_sum_26 : decode cX11_sum 26 = .ok (.iinc 5 1, 3) := by decide +kernel
theorem dX11_sum_29 : decode cX11_sum 29 = .ok (.goto (-23), 3) := by decide +kernel
theorem dX11_sum_32 : decode cX11_sum 32 = .ok (.iload 4, 2) := by decide +kernel
theorem dX11_sum_34 : decode cX11_sum 34 = .ok (.ireturn, 1) := by decide +kernel
theorem dX11_fill_0 : decode cX11_fill 0 = .ok (.iload_n 2, 1) := by decide +kernel
theorem dX11_fill_1 : decode cX11_fill 1 = .ok (.istore 4, 2) := by decide +kernel
theorem dX11_fill_3 : decode cX11_fill 3 = .ok (.iload 4, 2) := by decide +kernel
theorem dX11_fill_5 : decode cX11_fill 5 = .ok (.iload_n 3, 1) := by decide +kernel
theorem dX11_fill_6 : decode cX11_fill 6 = .ok (.if_icmp .ge 17, 3) := by decide +kernel
theorem dX11_fill_9 : decode cX11_fill 9 = .ok (.aload_n 0, 1) := by decide +kernel
theorem dX11_fill_10 : decode cX11_fill 10 = .ok (.getfield 14, 3) := by decide +kernel
theorem dX11_fill_13 : decode cX11_fill 13 = .ok (.iload 4, 2) := by decide +kernel
theorem dX11_fill_15 : decode cX11_fill 15 = .ok (.iload_n 1, 1) := by decide +kernel
theorem dX11_fill_16 : decode cX11_fill 16 = .ok (.iastore, 1) := by decide +kernel
theorem dX11_fill_17 : decode cX11_fill 17 = .ok (.iinc 4 1, 3) := by decide +kernel
theorem dX11_fill_20 : decode cX11_fill 20 = .ok (.goto (-17), 3) := by decide +kernel
theorem dX11_fill_23 : decode cX11_fill 23 = .ok (.return_, 1) := by decide +kernel
set_option maxRecDepth 20000 in
theorem ggX11_cut_X11_sum : GoodIn wsX11_cut wsX11_sum := goodIn_r _ [10, 11, 12, 13, 14, 15, 16] (by decide +kernel) (by decide +kernel)
set_option maxRecDepth 20000 in
theorem gX11_cut_X11_sum : GoodIn wsX11_cut (wsV RX11 44 RX11 yX11_sum wsX11_sum) := goodIn_app (goodIn_of _ (by decide +kernel)) ggX11_cut_X11_sum
theorem dX11_cut_0 : decode cX11_cut 0 = .ok (.iconst 0, 1) := by decide +kernel
theorem dX11_cut_1 : decode cX11_cut 1 = .ok (.istore_n 2, 1) := by decide +kernel
theorem dX11_cut_2 : decode cX11_cut 2 = .ok (.aload_n 0, 1) := by decide +kernel
theorem dX11_cut_3 : decode cX11_cut 3 = .ok (.getfield 28, 3) := by decide +kernel
theorem dX11_cut_6 : decode cX11_cut 6 = .ok (.istore_n 3, 1) := by decide +kernel
theorem dX11_cut_7 : decode cX11_cut 7 = .ok (.iload_n 3, 1) := by decide +kernel
theorem dX11_cut_8 : decode cX11_cut 8 = .ok (.ifCond .lt 91, 3) := by decide +kernel
theorem dX11_cut_11 : decode cX11_cut 11 = .ok (.aload_n 0, 1) := by decide +kernel
theorem dX11_cut_12 : decode cX11_cut 12 = .ok (.iload_n 1, 1) := by decide +kernel
theorem dX11_cut_13 : decode cX11_cut 13 = .ok (.iconst 0, 1) := by decide +kernel
theorem dX11_cut_14 : decode cX11_cut 14 = .ok (.iload_n 3, 1) := by decide +kernel
theorem dX11_cut_15 : decode cX11_cut 15 = .ok (.invokevirtual 44, 3) := by decide +kernel
theorem dX11_cut_18 : decode cX11_cut 18 = .ok (.aload_n 0, 1) := by decide +kernel
theorem dX11_cut_19 : decode cX11_cut 19 = .ok (.iload_n 1, 1) := by decide +kernel
theorem dX11_cut_20 : decode cX11_cut 20 = .ok (.iload_n 3, 1) := by decide +kernel
theorem dX11_cut_21 : decode cX11_cut 21 = .ok (.aload_n 0, 1) := by decide +kernel
theorem dX11_cut_22 : decode cX11_cut 22 = .ok (.getfield 28, 3) := by decide +kernel
theorem dX11_cut_25 : decode cX11_cut 25 = .ok (.invokevirtual 44, 3) := by decide +kernel
theorem dX11_cut_28 : decode cX11_cut 28 = .ok (.isub, 1) := by decide +kernel
theorem dX11_cut_29 : decode cX11_cut 29 = .ok (.invokestatic 48, 3) := by decide +kernel
theorem dX11_cut_32 : decode cX11_cut 32 = .ok (.istore 4, 2) := by decide +kernel
theorem dX11_cut_34 : decode cX11_cut 34 = .ok (.iload 4, 2) := by decide +kernel
theorem dX11_cut_36 : decode cX11_cut 36 = .ok (.aload_n 0, 1) := by decide +kernel
theorem dX11_cut_37 : decode cX11_cut 37 = .ok (.iload_n 1, 1) := by decide +kernel
theorem dX11_cut_38 : decode cX11_cut 38 = .ok (.iconst 0, 1) := by decide +kernel
theorem dX11_cut_39 : decode cX11_cut 39 = .ok (.iload_n 2, 1) := by decide +kernel
theorem dX11_cut_40 : decode cX11_cut 40 = .ok (.invokevirtual 44, 3) := by decide +kernel
theorem dX11_cut_43 : decode cX11_cut 43 = .ok (.aload_n 0, 1) := by decide +kernel
theorem dX11_cut_44 : decode cX11_cut 44 = .ok (.iload_n 1, 1) := by decide +kernel
theorem dX11_cut_45 : decode cX11_cut 45 = .ok (.iload_n 2, 1) := by decide +kernel
theorem dX11_cut_46 : decode cX11_cut 46 = .ok (.aload_n 0, 1) := by decide +kernel
theorem dX11_cut_47 : decode cX11_cut 47 = .ok (.getfield 28, 3) := by decide +kernel
theorem dX11_cut_50 : decode cX11_cut 50 = .ok (.invokevirtual 44, 3) := by decide +kernel
theorem dX11_cut_53 : decode cX11_cut 53 = .ok (.isub, 1) := by decide +kernel
theorem dX11_cut_54 : decode cX11_cut 54 = .ok (.invokestatic 48, 3) := by decide +kernel
theorem dX11_cut_57 : decode cX11_cut 57 = .ok (.if_icmp .gt 36, 3) := by decide +kernel
theorem dX11_cut_60 : decode cX11_cut 60 = .ok (.iload 4, 2) := by decide +kernel
theorem dX11_cut_62 : decode cX11_cut 62 = .ok (.aload_n 0, 1) := by decide +kernel
theorem dX11_cut_63 : decode cX11_cut 63 = .ok (.iload_n 1, 1) := by decide +kernel
theorem dX11_cut_64 : decode cX11_cut 64 = .ok (.iconst 0, 1) := by decide +kernel
theorem dX11_cut_65 : decode cX11_cut 65 = .ok (.iload_n 2, 1) := by decide +kernel
theorem dX11_cut_66 : decode cX11_cut 66 = .ok (.invokevirtual 44, 3) := by decide +kernel
theorem dX11_cut_69 : decode cX11_cut 69 = .ok (.aload_n 0, 1) := by decide +kernel
theorem dX11_cut_70 : decode cX11_cut 70 = .ok (.iload_n 1, 1) := by decide +kernel
theorem dX11_cut_71 : decode cX11_cut 71 = .ok (.iload_n 2, 1) := by decide +kernel
theorem dX11_cut_72 : decode cX11_cut 72 = .ok (.aload_n 0, 1) := by decide +kernel
theorem dX11_cut_73 : decode cX11_cut 73 = .ok (.getfield 28, 3) := by decide +kernel
theorem dX11_cut_76 : decode cX11_cut 76 = .ok (.invokevirtual 44, 3) := by decide +kernel
theorem dX11_cut_79 : decode cX11_cut 79 = .ok (.isub, 1) := by decide +kernel
theorem dX11_cut_80 : decode cX11_cut 80 = .ok (.invokestatic 48, 3) := by decide +kernel
theorem dX11_cut_83 : decode cX11_cut 83 = .ok (.if_icmp .lt 8, 3) := by decide +kernel
theorem dX11_cut_86 : decode cX11_cut 86 = .ok (.iload_n 3, 1) := by decide +kernel
theorem dX11_cut_87 : decode cX11_cut 87 = .ok (.iload_n 2, 1) := by decide +kernel
theorem dX11_cut_88 : decode cX11_cut 88 = .ok (.if_icmp .ge 5, 3) := by decide +kernel
theorem dX11_cut_91 : decode cX11_cut 91 = .ok (.iload_n 3, 1) := by decide +kernel
theorem dX11_cut_92 : decode cX11_cut 92 = .ok (.istore_n 2, 1) := by decide +kernel
theorem dX11_cut_93 : decode cX11_cut 93 = .ok (.iinc 3 (-1), 3) := by decide +kernel
theorem dX11_cut_96 : decode cX11_cut 96 = .ok (.goto (-89), 3) := by decide +kernel
theorem dX11_cut_99 : decode cX11_cut 99 = .ok (.iload_n 2, 1) := by decide +kernel
theorem dX11_cut_100 : decode cX11_cut 100 = .ok (.ireturn, 1) := by decide +kernel
set_option maxRecDepth 20000 in
theorem ggX11_divide_X11_cut : GoodIn wsX11_divide wsX11_cut := goodIn_r _ [6, 1, 7, 8, 9, 10, 11, 12, 13, 5, 14, 15, 21, 22, 23, 24, 25] (by decide +kernel) (by decide +kernel)
set_option maxRecDepth 20000 in
theorem gX11_divide_X11_cut : GoodIn wsX11_divide (wsV RX11 53 RX11 yX11_cut wsX11_cut) := goodIn_app (goodIn_of _ (by decide +kernel)) ggX11_divide_X11_cut
set_option maxRecDepth 20000 in
theorem ggX11_divide_X11_sum : GoodIn wsX11_divide wsX11_sum := goodIn_r _ [14, 15, 21, 22, 23, 24, 25] (by decide +kernel) (by decide +kernel)
set_option maxRecDepth 20000 in
theorem gX11_divide_X11_sum : GoodIn wsX11_divide (wsV RX11 44 RX11 yX11_sum wsX11_sum) := goodIn_app (goodIn_of _ (by decide +kernel)) ggX11_divide_X11_sum
set_option maxRecDepth 20000 in
theorem ggX11_divide_X11_fill : GoodIn wsX11_divide wsX11_fill := goodIn_r _ [19, 20, 21, 22, 23, 24, 25] (by decide +kernel) (by decide +kernel)
set_option maxRecDepth 20000 in
theorem gX11_divide_X11_fill : GoodIn wsX11_divide (wsV RX11 56 RX11 yX11_fill wsX11_fill) := goodIn_app (goodIn_of _ (by decide +kernel)) ggX11_divide_X11_fill
theorem dX11_divide_0 : decode cX11_divide 0 = .ok (.aload_n 0, 1) := by decide +kernel
theorem dX11_divide_1 : decode cX11_divide 1 = .ok (.iload_n 1, 1) := by decide +kernel
theorem dX11_divide_2 : decode cX11_divide 2 = .ok (.invokevirtual 53, 3) := by decide +kernel
theorem dX11_divide_5 : decode cX11_divide 5 = .ok (.istore_n 3, 1) := by decide +kernel
theorem dX11_divide_6 : decode cX11_divide 6 = .ok (.aload_n 0, 1) := by decide +kernel
theorem dX11_divide_7 : decode cX11_divide 7 = .ok (.iload_n 2, 1) := by decide +kernel
theorem dX11_divide_8 : decode cX11_divide 8 = .ok (.iconst 0, 1) := by decide +kernel
theorem dX11_divide_9 : decode cX11_divide 9 = .ok (.iload_n 3, 1) := by decide +kernel
theorem dX11_divide_10 : decode cX11_divide 10 = .ok (.invokevirtual 44, 3) := by decide +kernel
theorem dX11_divide_13 : decode cX11_divide 13 = .ok (.aload_n 0, 1) := by decide +kernel
theorem dX11_divide_14 : decode cX11_divide 14 = .ok (.iload_n 2, 1) := by decide +kernel
theorem dX11_divide_15 : decode cX11_divide 15 = .ok (.iload_n 3, 1) := by decide +kernel
theorem dX11_divide_16 : decode cX11_divide 16 = .ok (.aload_n 0, 1) := by decide +kernel
theorem dX11_divide_17 : decode cX11_divide 17 = .ok (.getfield 28, 3) := by decide +kernel
theorem dX11_divide_20 : decode cX11_divide 20 = .ok (.invokevirtual 44, 3) := by decide +kernel
theorem dX11_divide_23 : decode cX11_divide 23 = .ok (.if_icmp .lt 7, 3) := by decide +kernel
theorem dX11_divide_26 : decode cX11_divide 26 = .ok (.iconst 1, 1) := by decide +kernel
theorem dX11_divide_27 : decode cX11_divide 27 = .ok (.goto 4, 3) := by decide +kernel
theorem dX11_divide_30 : decode cX11_divide 30 = .ok (.iconst 0, 1) := by decide +kernel
theorem dX11_divide_31 : decode cX11_divide 31 = .ok (.istore 4, 2) := by decide +kernel
theorem dX11_divide_33 : decode cX11_divide 33 = .ok (.aload_n 0, 1) := by decide +kernel
theorem dX11_divide_34 : decode cX11_divide 34 = .ok (.iload 4, 2) := by decide +kernel
theorem dX11_divide_36 : decode cX11_divide 36 = .ok (.ifCond .eq 7, 3) := by decide +kernel
theorem dX11_divide_39 : decode cX11_divide 39 = .ok (.iload_n 2, 1) := by decide +kernel
theorem dX11_divide_40 : decode cX11_divide 40 = .ok (.goto 4, 3) := by decide +kernel
theorem dX11_divide_43 : decode cX11_divide 43 = .ok (.iload_n 1, 1) := by decide +kernel
theorem dX11_divide_44 : decode cX11_divide 44 = .ok (.iconst 0, 1) := by decide +kernel
theorem dX11_divide_45 : decode cX11_divide 45 = .ok (.iload_n 3, 1) := by decide +kernel
theorem dX11_divide_46 : decode cX11_divide 46 = .ok (.invokevirtual 56, 3) := by decide +kernel
theorem dX11_divide_49 : decode cX11_divide 49 = .ok (.aload_n 0, 1) := by decide +kernel
theorem dX11_divide_50 : decode cX11_divide 50 = .ok (.iload 4, 2) := by decide +kernel
theorem dX11_divide_52 : decode cX11_divide 52 = .ok (.ifCond .eq 7, 3) := by decide +kernel
theorem dX11_divide_55 : decode cX11_divide 55 = .ok (.iload_n 1, 1) := by decide +kernel
theorem dX11_divide_56 : decode cX11_divide 56 = .ok (.goto 4, 3) := by decide +kernel
theorem dX11_divide_59 : decode cX11_divide 59 = .ok (.iload_n 2, 1) := by decide +kernel
theorem dX11_divide_60 : decode cX11_divide 60 = .ok (.iload_n 3, 1) := by decide +kernel
theorem dX11_divide_61 : decode cX11_divide 61 = .ok (.aload_n 0, 1) := by decide +kernel
theorem dX11_divide_62 : decode cX11_divide 62 = .ok (.getfield 28, 3) := by decide +kernel
theorem dX11_divide_65 : decode cX11_divide 65 = .ok (.invokevirtual 56, 3) := by decide +kernel
theorem dX11_divide_68 : decode cX11_divide 68 = .ok (.iload_n 3, 1) := by decide +kernel
theorem dX11_divide_69 : decode cX11_divide 69 = .ok (.ireturn, 1) := by decide +kernel
set_option maxRecDepth 20000 in
theorem ggX11_knife_X11_fill : GoodIn wsX11_knife wsX11_fill := goodIn_r _ [8, 9, 15, 16, 17, 18, 19] (by decide +kernel) (by decide +kernel)
set_option maxRecDepth 20000 in
theorem gX11_knife_X11_fill : GoodIn wsX11_knife (wsV RX11 56 RX11 yX11_fill wsX11_fill) := goodIn_app (goodIn_of _ (by decide +kernel)) ggX11_knife_X11_fill
set_option maxRecDepth 20000 in
theorem ggX11_knife_X11_sum : GoodIn wsX11_knife wsX11_sum := goodIn_r _ [13, 14, 15, 16, 17, 18, 19] (by decide +kernel) (by decide +kernel)
set_option maxRecDepth 20000 in
theorem gX11_knife_X11_sum : GoodIn wsX11_knife (wsV RX11 44 RX11 yX11_sum wsX11_sum) := goodIn_app (goodIn_of _ (by decide +kernel)) ggX11_knife_X11_sum
theorem dX11_knife_0 : decode cX11_knife 0 = .ok (.bipush 6, 2) := by decide +kernel
theorem dX11_knife_2 : decode cX11_knife 2 = .ok (.newarray .boolean, 2) := by decide +kernel
theorem dX11_knife_4 : decode cX11_knife 4 = .ok (.astore_n 1, 1) := by decide +kernel
theorem dX11_knife_5 : decode cX11_knife 5 = .ok (.aload_n 0, 1) := by decide +kernel
theorem dX11_knife_6 : decode cX11_knife 6 = .ok (.iconst (-1), 1) := by decide +kernel
theorem dX11_knife_7 : decode cX11_knife 7 = .ok (.iconst 0, 1) := by decide +kernel
theorem dX11_knife_8 : decode cX11_knife 8 = .ok (.aload_n 0, 1) := by decide +kernel
theorem dX11_knife_9 : decode cX11_knife 9 = .ok (.getfield 28, 3) := by decide +kernel
theorem dX11_knife_12 : decode cX11_knife 12 = .ok (.invokevirtual 56, 3) := by decide +kernel
theorem dX11_knife_15 : decode cX11_knife 15 = .ok (.iconst 0, 1) := by decide +kernel
theorem dX11_knife_16 : decode cX11_knife 16 = .ok (.istore_n 2, 1) := by decide +kernel
theorem dX11_knife_17 : decode cX11_knife 17 = .ok (.aload_n 0, 1) := by decide +kernel
theorem dX11_knife_18 : decode cX11_knife 18 = .ok (.getfield 35, 3) := by decide +kernel
theorem dX11_knife_21 : decode cX11_knife 21 = .ok (.istore_n 3, 1) := by decide +kernel
theorem dX11_knife_22 : decode cX11_knife 22 = .ok (.iload_n 3, 1) := by decide +kernel
theorem dX11_knife_23 : decode cX11_knife 23 = .ok (.ifCond .le 140, 3) := by decide +kernel
theorem dX11_knife_26 : decode cX11_knife 26 = .ok (.iload_n 2, 1) := by decide +kernel
theorem dX11_knife_27 : decode cX11_knife 27 = .ok (.aload_n 0, 1) := by decide +kernel
theorem dX11_knife_28 : decode cX11_knife 28 = .ok (.getfield 28, 3) := by decide +kernel
theorem dX11_knife_31 : decode cX11_knife 31 = .ok (.if_icmp .ge 132, 3) := by decide +kernel
theorem dX11_knife_34 : decode cX11_knife 34 = .ok (.iconst (-1), 1) := by decide +kernel
theorem dX11_knife_35 : decode cX11_knife 35 = .ok (.istore 4, 2) := by decide +kernel
theorem dX11_knife_37 : decode cX11_knife 37 = .ok (.iload_n 2, 1) := by decide +kernel
theorem dX11_knife_38 : decode cX11_knife 38 = .ok (.istore 5, 2) := by decide +kernel
theorem dX11_knife_40 : decode cX11_knife 40 = .ok (.iload 4, 2) := by decide +kernel
theorem dX11_knife_42 : decode cX11_knife 42 = .ok (.ifCond .ge 98, 3) := by decide +kernel
theorem dX11_knife_45 : decode cX11_knife 45 = .ok (.iinc 5 1, 3) := by decide +kernel
theorem dX11_knife_48 : decode cX11_knife 48 = .ok (.aload_n 0, 1) := by decide +kernel
theorem dX11_knife_49 : decode cX11_knife 49 = .ok (.getfield 35, 3) := by decide +kernel
theorem dX11_knife_52 : decode cX11_knife 52 = .ok (.iconst 1, 1) := by decide +kernel
theorem dX11_knife_53 : decode cX11_knife 53 = .ok (.isub, 1) := by decide +kernel
theorem dX11_knife_54 : decode cX11_knife 54 = .ok (.istore 6, 2) := by decide +kernel
theorem dX11_knife_56 : decode cX11_knife 56 = .ok (.iload 6, 2) := by decide +kernel
theorem dX11_knife_58 : decode cX11_knife 58 = .ok (.ifCond .lt 79, 3) := by decide +kernel
theorem dX11_knife_61 : decode cX11_knife 61 = .ok (.iload_n 3, 1) := by decide +kernel
theorem dX11_knife_62 : decode cX11_knife 62 = .ok (.iconst 1, 1) := by decide +kernel
theorem dX11_knife_63 : decode cX11_knife 63 = .ok (.if_icmp .ne 20, 3) := by decide +kernel
theorem dX11_knife_66 : decode cX11_knife 66 = .ok (.iload 5, 2) := by decide +kernel
theorem dX11_knife_68 : decode cX11_knife 68 = .ok (.aload_n 0, 1) := by decide +kernel
theorem dX11_knife_69 : decode cX11_knife 69 = .ok (.getfield 28, 3) := by decide +kernel
theorem dX11_knife_72 : decode cX11_knife 72 = .ok (.if_icmp .ne 7, 3) := by decide +kernel
theorem dX11_knife_75 : decode cX11_knife 75 = .ok (.iconst 1, 1) := by decide +kernel
theorem dX11_knife_76 : decode cX11_knife 76 = .ok (.goto 37, 3) := by decide +kernel
theorem dX11_knife_79 : decode cX11_knife 79 = .ok (.iconst 0, 1) := by decide +kernel
theorem dX11_knife_80 : decode cX11_knife 80 = .ok (.goto 33, 3) := by decide +kernel
theorem dX11_knife_83 : decode cX11_knife 83 = .ok (.aload_n 0, 1) := by decide +kernel
theorem dX11_knife_84 : decode cX11_knife 84 = .ok (.iload 6, 2) := by decide +kernel
theorem dX11_knife_86 : decode cX11_knife 86 = .ok (.iload_n 2, 1) := by decide +kernel
theorem dX11_knife_87 : decode cX11_knife 87 = .ok (.iload 5, 2) := by decide +kernel
theorem dX11_knife_89 : decode cX11_knife 89 = .ok (.invokevirtual 44, 3) := by decide +kernel
theorem dX11_knife_92 : decode cX11_knife 92 = .ok (.iload_n 3, 1) := by decide +kernel
theorem dX11_knife_93 : decode cX11_knife 93 = .ok (.imul, 1) := by decide +kernel
theorem dX11_knife_94 : decode cX11_knife 94 = .ok (.aload_n 0, 1) := by decide +kernel
theorem dX11_knife_95 : decode cX11_knife 95 = .ok (.iload 6, 2) := by decide +kernel
theorem dX11_knife_97 : decode cX11_knife 97 = .ok (.iload_n 2, 1) := by decide +kernel
theorem dX11_knife_98 : decode cX11_knife 98 = .ok (.aload_n 0, 1) := by decide +kernel
theorem dX11_knife_99 : decode cX11_knife 99 = .ok (.getfield 28, 3) := by decide +kernel
theorem dX11_knife_102 : decode cX11_knife 102 = .ok (.invokevirtual 44, 3) := by decide +kernel
theorem dX11_knife_105 : decode cX11_knife 105 = .ok (.if_icmp .lt 7, 3) := by decide +kernel
theorem dX11_knife_108 : decode cX11_knife 108 = .ok (.iconst 1, 1) := by decide +kernel
theorem dX11_knife_109 : decode cX11_knife 109 = .ok (.goto 4, 3) := by decide +kernel
theorem dX11_knife_112 : decode cX11_knife 112 = .ok (.iconst 0, 1) := by decide +kernel
theorem dX11_knife_113 : decode cX11_knife 113 = .ok (.istore 7, 2) := by decide +kernel
theorem dX11_knife_115 : decode cX11_knife 115 = .ok (.aload_n 1, 1) := by decide +kernel
theorem dX11_knife_116 : decode cX11_knife 116 = .ok (.iload 6, 2) := by decide +kernel
theorem dX11_knife_118 : decode cX11_knife 118 = .ok (.baload, 1) := by decide +kernel
theorem dX11_knife_119 : decode cX11_knife 119 = .ok (.ifCond .ne 12, 3) := by decide +kernel
theorem dX11_knife_122 : decode cX11_knife 122 = .ok (.iload 7, 2) := by decide +kernel
theorem dX11_knife_124 : decode cX11_knife 124 = .ok (.ifCond .eq 7, 3) := by decide +kernel
theorem dX11_knife_127 : decode cX11_knife 127 = .ok (.iload 6, 2) := by decide +kernel
theorem dX11_knife_129 : decode cX11_knife 129 = .ok (.istore 4, 2) := by decide +kernel
theorem dX11_knife_131 : decode cX11_knife 131 = .ok (.iinc 6 (-1), 3) := by decide +kernel
theorem dX11_knife_134 : decode cX11_knife 134 = .ok (.goto (-78), 3) := by decide +kernel
theorem dX11_knife_137 : decode cX11_knife 137 = .ok (.goto (-97), 3) := by decide +kernel
theorem dX11_knife_140 : decode cX11_knife 140 = .ok (.aload_n 1, 1) := by decide +kernel
theorem dX11_knife_141 : decode cX11_knife 141 = .ok (.iload 4, 2) := by decide +kernel
theorem dX11_knife_143 : decode cX11_knife 143 = .ok (.iconst 1, 1) := by decide +kernel
theorem dX11_knife_144 : decode cX11_knife 144 = .ok (.bastore, 1) := by decide +kernel
theorem dX11_knife_145 : decode cX11_knife 145 = .ok (.aload_n 0, 1) := by decide +kernel
theorem dX11_knife_146 : decode cX11_knife 146 = .ok (.iload 4, 2) := by decide +kernel
theorem dX11_knife_148 : decode cX11_knife 148 = .ok (.iload_n 2, 1) := by decide +kernel
theorem dX11_knife_149 : decode cX11_knife 149 = .ok (.iload 5, 2) := by decide +kernel
theorem dX11_knife_151 : decode cX11_knife 151 = .ok (.invokevirtual 56, 3) := by decide +kernel
theorem dX11_knife_154 : decode cX11_knife 154 = .ok (.iload 5, 2) := by decide +kernel
theorem dX11_knife_156 : decode cX11_knife 156 = .ok (.istore_n 2, 1) := by decide +kernel
theorem dX11_knife_157 : decode cX11_knife 157 = .ok (.iinc 3 (-1), 3) := by decide +kernel
theorem dX11_knife_160 : decode cX11_knife 160 = .ok (.goto (-138), 3) := by decide +kernel
theorem dX11_knife_163 : decode cX11_knife 163 = .ok (.return_, 1) := by decide +kernel
theorem dX11_robin_0 : decode cX11_robin 0 = .ok (.iconst 0, 1) := by decide +kernel
theorem dX11_robin_1 : decode cX11_robin 1 = .ok (.istore_n 2, 1) := by decide +kernel
theorem dX11_robin_2 : decode cX11_robin 2 = .ok (.iload_n 1, 1) := by decide +kernel
theorem dX11_robin_3 : decode cX11_robin 3 = .ok (.istore_n 3, 1) := by decide +kernel
theorem dX11_robin_4 : decode cX11_robin 4 = .ok (.iconst (-1), 1) := by decide +kernel
theorem dX11_robin_5 : decode cX11_robin 5 = .ok (.istore 4, 2) := by decide +kernel
theorem dX11_robin_7 : decode cX11_robin 7 = .ok (.iload_n 3, 1) := by decide +kernel
theorem dX11_robin_8 : decode cX11_robin 8 = .ok (.aload_n 0, 1) := by decide +kernel
theorem dX11_robin_9 : decode cX11_robin 9 = .ok (.getfield 35, 3) := by decide +kernel
theorem dX11_robin_12 : decode cX11_robin 12 = .ok (.irem, 1) := by decide +kernel
theorem dX11_robin_13 : decode cX11_robin 13 = .ok (.istore 5, 2) := by decide +kernel
theorem dX11_robin_15 : decode cX11_robin 15 = .ok (.aload_n 0, 1) := by decide +kernel
theorem dX11_robin_16 : decode cX11_robin 16 = .ok (.getfield 28, 3) := by decide +kernel
theorem dX11_robin_19 : decode cX11_robin 19 = .ok (.iconst 1, 1) := by decide +kernel
theorem dX11_robin_20 : decode cX11_robin 20 = .ok (.isub, 1) := by decide +kernel
theorem dX11_robin_21 : decode cX11_robin 21 = .ok (.istore 6, 2) := by decide +kernel
theorem dX11_robin_23 : decode cX11_robin 23 = .ok (.iload 6, 2) := by decide +kernel
theorem dX11_robin_25 : decode cX11_robin 25 = .ok (.ifCond .lt 51, 3) := by decide +kernel
theorem dX11_robin_28 : decode cX11_robin 28 = .ok (.aload_n 0, 1) := by decide +kernel
theorem dX11_robin_29 : decode cX11_robin 29 = .ok (.getfield 14, 3) := by decide +kernel
theorem dX11_robin_32 : decode cX11_robin 32 = .ok (.iload 6, 2) := by decide +kernel
theorem dX11_robin_34 : decode cX11_robin 34 = .ok (.iaload, 1) := by decide +kernel
theorem dX11_robin_35 : decode cX11_robin 35 = .ok (.ifCond .ge 35, 3) := by decide +kernel
theorem dX11_robin_38 : decode cX11_robin 38 = .ok (.iload 4, 2) := by decide +kernel
theorem dX11_robin_40 : decode cX11_robin 40 = .ok (.ifCond .lt 26, 3) := by decide +kernel
theorem dX11_robin_43 : decode cX11_robin 43 = .ok (.aload_n 0, 1) := by decide +kernel
theorem dX11_robin_44 : decode cX11_robin 44 = .ok (.getfield 9, 3) := by decide +kernel
theorem dX11_robin_47 : decode cX11_robin 47 = .ok (.iload 5, 2) := by decide +kernel
theorem dX11_robin_49 : decode cX11_robin 49 = .ok (.aaload, 1) := by decide +kernel
theorem dX11_robin_50 : decode cX11_robin 50 = .ok (.iload 6, 2) := by decide +kernel
theorem dX11_robin_52 : decode cX11_robin 52 = .ok (.iaload, 1) := by decide +kernel
theorem dX11_robin_53 : decode cX11_robin 53 = .ok (.aload_n 0, 1) := by decide +kernel
theorem dX11_robin_54 : decode cX11_robin 54 = .ok (.getfield 9, 3) := by decide +kernel
theorem dX11_robin_57 : decode cX11_robin 57 = .ok (.iload 5, 2) := by decide +kernel
theorem dX11_robin_59 : decode cX11_robin 59 = .ok (.aaload, 1) := by decide +kernel
theorem dX11_robin_60 : decode cX11_robin 60 = .ok (.iload 4, 2) := by decide +kernel
theorem dX11_robin_62 : decode cX11_robin 62 = .ok (.iaload, 1) := by decide +kernel
theorem dX11_robin_63 : decode cX11_robin 63 = .ok (.if_icmp .lt 7, 3) := by decide +kernel
theorem dX11_robin_66 : decode cX11_robin 66 = .ok (.iload 6, 2) := by decide +kernel
theorem dX11_robin_68 : decode cX11_robin 68 = .ok (.istore 4, 2) := by decide +kernel
theorem dX11_robin_70 : decode cX11_robin 70 = .ok (.iinc 6 (-1), 3) := by decide +kernel
theorem dX11_robin_73 : decode cX11_robin 73 = .ok (.goto (-50), 3) := by decide +kernel
theorem dX11_robin_76 : decode cX11_robin 76 = .ok (.iload 4, 2) := by decide +kernel
theorem dX11_robin_78 : decode cX11_robin 78 = .ok (.ifCond .ge 5, 3) := by decide +kernel
theorem dX11_robin_81 : decode cX11_robin 81 = .ok (.iload_n 2, 1) := by decide +kernel
theorem dX11_robin_82 : decode cX11_robin 82 = .ok (.ireturn, 1) := by decide +kernel
theorem dX11_robin_83 : decode cX11_robin 83 = .ok (.aload_n 0, 1) := by decide +kernel
theorem dX11_robin_84 : decode cX11_robin 84 = .ok (.getfield 14, 3) := by decide +kernel
theorem dX11_robin_87 : decode cX11_robin 87 = .ok (.iload 4, 2) := by decide +kernel
theorem dX11_robin_89 : decode cX11_robin 89 = .ok (.iload 5, 2) := by decide +kernel
theorem dX11_robin_91 : decode cX11_robin 91 = .ok (.iastore, 1) := by decide +kernel
theorem dX11_robin_92 : decode cX11_robin 92 = .ok (.iinc 2 1, 3) := by decide +kernel
theorem dX11_robin_95 : decode cX11_robin 95 = .ok (.iinc 3 1, 3) := by decide +kernel
theorem dX11_robin_98 : decode cX11_robin 98 = .ok (.goto (-94), 3) := by decide +kernel
set_option maxRecDepth 20000 in
theorem ggX11_agrees_X10_owner : GoodIn wsX11_agrees wsX10_owner := goodIn_ca (goodIn_r _ [13, 14, 15, 16, 17, 18, 12, 19, 20, 21, 22, 23, 24, 25, 26, 27, 125, 126, 127, 128, 129, 130, 131, 132, 133, 134, 135, 136, 137, 138, 139, 140] (by decide +kernel) (by decide +kernel)) (goodIn_sub (fun _ h => List.mem_cons_of_mem _ (List.mem_append_right _ h)) (by decide +kernel))
set_option maxRecDepth 20000 in
theorem gX11_agrees_X10_owner : GoodIn wsX11_agrees (wsV RX11 38 RX10 yX10_owner wsX10_owner) := goodIn_app (goodIn_of _ (by decide +kernel)) ggX11_agrees_X10_owner
set_option maxRecDepth 20000 in
theorem ggX11_agrees_X11_worth : GoodIn wsX11_agrees wsX11_worth := goodIn_r _ [32, 1, 3, 33, 120, 121, 122, 123, 124] (by decide +kernel) (by decide +kernel)
set_option maxRecDepth 20000 in
theorem gX11_agrees_X11_worth : GoodIn wsX11_agrees (wsV RX11 60 RX11 yX11_worth wsX11_worth) := goodIn_app (goodIn_of _ (by decide +kernel)) ggX11_agrees_X11_worth
set_option maxRecDepth 20000 in
theorem ggX11_agrees_X10_worthOfShare : GoodIn wsX11_agrees wsX10_worthOfShare := goodIn_ca (goodIn_r _ [37, 14, 15, 38, 39, 40, 12, 41, 20, 21, 42, 43, 44, 25, 45, 46, 47, 48, 49, 50, 27, 51, 125, 126, 127, 128, 129, 130, 131, 132, 133, 134, 135, 136, 137, 138, 139, 140] (by decide +kernel) (by decide +kernel)) (goodIn_sub (fun _ h => List.mem_cons_of_mem _ (List.mem_append_right _ h)) (by decide +kernel))
set_option maxRecDepth 20000 in
theorem gX11_agrees_X10_worthOfShare : GoodIn wsX11_agrees (wsV RX11 63 RX10 yX10_worthOfShare wsX10_worthOfShare) := goodIn_app (goodIn_of _ (by decide +kernel)) ggX11_agrees_X10_worthOfShare
set_option maxRecDepth 20000 in
theorem ggX11_agrees_X10_envies : GoodIn wsX11_agrees wsX10_envies := goodIn_ca (goodIn_r _ [55, 56, 38, 39, 40, 12, 41, 20, 21, 14, 42, 43, 44, 25, 45, 46, 57, 58, 59, 60, 61, 62, 63, 64, 48, 49, 50, 27, 51, 125, 126, 127, 128, 129, 130, 131, 132, 133, 134, 135, 136, 137, 138, 139, 140, 141, 142, 143, 144] (by decide +kernel) (by decide +kernel)) (goodIn_sub (fun _ h => List.mem_cons_of_mem _ (List.mem_append_right _ h)) (by decide +kernel))
set_option maxRecDepth 20000 in
theorem gX11_agrees_X10_envies : GoodIn wsX11_agrees (wsV RX11 66 RX10 yX10_envies wsX10_envies) := goodIn_app (goodIn_of _ (by decide +kernel)) ggX11_agrees_X10_envies
set_option maxRecDepth 20000 in
theorem ggX11_agrees_X10_isSatisfied : GoodIn wsX11_agrees wsX10_isSatisfied := goodIn_ca (goodIn_r _ [68, 56, 38, 39, 40, 12, 41, 20, 21, 14, 42, 43, 44, 25, 45, 46, 69, 70, 71, 60, 72, 62, 73, 74, 75, 76, 77, 78, 79, 48, 49, 50, 27, 51, 80, 81, 82, 83, 84, 85, 86, 87, 125, 126, 127, 128, 129, 130, 131, 132, 133, 134, 135, 136, 137, 138, 139, 140, 141, 142, 143, 144] (by decide +kernel) (by decide +kernel)) (goodIn_sub (fun _ h => List.mem_cons_of_mem _ (List.mem_append_right _ h)) (by decide +kernel))
set_option maxRecDepth 20000 in
theorem gX11_agrees_X10_isSatisfied : GoodIn wsX11_agrees (wsV RX11 70 RX10 yX10_isSatisfied wsX10_isSatisfied) := goodIn_app (goodIn_of _ (by decide +kernel)) ggX11_agrees_X10_isSatisfied
set_option maxRecDepth 20000 in
theorem ggX11_agrees_X11_sum : GoodIn wsX11_agrees wsX11_sum := goodIn_r _ [91, 33, 120, 121, 122, 123, 124] (by decide +kernel) (by decide +kernel)
set_option maxRecDepth 20000 in
theorem gX11_agrees_X11_sum : GoodIn wsX11_agrees (wsV RX11 44 RX11 yX11_sum wsX11_sum) := goodIn_app (goodIn_of _ (by decide +kernel)) ggX11_agrees_X11_sum
set_option maxRecDepth 20000 in
theorem ggX11_agrees_X10_freeCount : GoodIn wsX11_agrees wsX10_freeCount := goodIn_r _ [95, 14, 96, 97, 98, 25, 99, 27, 78, 125, 126, 127, 128, 129, 130, 131, 132, 133, 134, 135, 136, 137, 138, 139, 140] (by decide +kernel) (by decide +kernel)
set_option maxRecDepth 20000 in
theorem gX11_agrees_X10_freeCount : GoodIn wsX11_agrees (wsV RX11 77 RX10 yX10_freeCount wsX10_freeCount) := goodIn_app (goodIn_of _ (by decide +kernel)) ggX11_agrees_X10_freeCount
set_option maxRecDepth 20000 in
theorem ggX11_agrees_X10_totalWelfare : GoodIn wsX11_agrees wsX10_totalWelfare := goodIn_r _ [103, 14, 104, 105, 75, 76, 25, 77, 78, 79, 48, 49, 50, 27, 51, 125, 126, 127, 128, 129, 130, 131, 132, 133, 134, 135, 136, 137, 138, 139, 140] (by decide +kernel) (by decide +kernel)
set_option maxRecDepth 20000 in
theorem gX11_agrees_X10_totalWelfare : GoodIn wsX11_agrees (wsV RX11 80 RX10 yX10_totalWelfare wsX10_totalWelfare) := goodIn_app (goodIn_of _ (by decide +kernel)) ggX11_agrees_X10_totalWelfare
set_option maxRecDepth 20000 in
theorem ggX11_agrees_X10_leastWelfare : GoodIn wsX11_agrees wsX10_leastWelfare := goodIn_r _ [109, 14, 15, 110, 111, 112, 25, 113, 46, 114, 6, 7, 8, 79, 48, 49, 50, 27, 51, 125, 126, 127, 128, 129, 130, 131, 132, 133, 134, 135, 136, 137, 138, 139, 140] (by decide +kernel) (by decide +kernel)
set_option maxRecDepth 20000 in
theorem gX11_agrees_X10_leastWelfare : GoodIn wsX11_agrees (wsV RX11 83 RX10 yX10_leastWelfare wsX10_leastWelfare) := goodIn_app (goodIn_of _ (by decide +kernel)) ggX11_agrees_X10_leastWelfare
set_option maxRecDepth 20000 in
theorem ggX11_agrees_X10_inconsistencies : GoodIn wsX11_agrees wsX10_inconsistencies := goodIn_r _ [118, 14, 119, 104, 56, 96, 97, 98, 25, 99, 27, 78, 57, 58, 59, 60, 61, 62, 63, 64, 48, 49, 50, 51, 125, 126, 127, 128, 129, 130, 131, 132, 133, 134, 135, 136, 137, 138, 139, 140, 141, 142, 143, 144] (by decide +kernel) (by decide +kernel)
set_option maxRecDepth 20000 in
theorem gX11_agrees_X10_inconsistencies : GoodIn wsX11_agrees (wsV RX11 86 RX10 yX10_inconsistencies wsX10_inconsistencies) := goodIn_app (goodIn_of _ (by decide +kernel)) ggX11_agrees_X10_inconsistencies
theorem dX11_agrees_0 : decode cX11_agrees 0 = .ok (.iconst 0, 1) := by decide +kernel
theorem dX11_agrees_1 : decode cX11_agrees 1 = .ok (.istore_n 1, 1) := by decide +kernel
theorem dX11_agrees_2 : decode cX11_agrees 2 = .ok (.iconst 0, 1) := by decide +kernel
theorem dX11_agrees_3 : decode cX11_agrees 3 = .ok (.istore_n 2, 1) := by decide +kernel
theorem dX11_agrees_4 : decode cX11_agrees 4 = .ok (.iload_n 2, 1) := by decide +kernel
theorem dX11_agrees_5 : decode cX11_agrees 5 = .ok (.aload_n 0, 1) := by decide +kernel
theorem dX11_agrees_6 : decode cX11_agrees 6 = .ok (.getfield 28, 3) := by decide +kernel
theorem dX11_agrees_9 : decode cX11_agrees 9 = .ok (.if_icmp .ge 45, 3) := by decide +kernel
theorem dX11_agrees_12 : decode cX11_agrees 12 = .ok (.aload_n 0, 1) := by decide +kernel
theorem dX11_agrees_13 : decode cX11_agrees 13 = .ok (.getfield 18, 3) := by decide +kernel
theorem dX11_agrees_16 : decode cX11_agrees 16 = .ok (.iload_n 2, 1) := by decide +kernel
theorem dX11_agrees_17 : decode cX11_agrees 17 = .ok (.invokevirtual 38, 3) := by decide +kernel
theorem dX11_agrees_20 : decode cX11_agrees 20 = .ok (.aload_n 0, 1) := by decide +kernel
theorem dX11_agrees_21 : decode cX11_agrees 21 = .ok (.getfield 14, 3) := by decide +kernel
theorem dX11_agrees_24 : decode cX11_agrees 24 = .ok (.iload_n 2, 1) := by decide +kernel
theorem dX11_agrees_25 : decode cX11_agrees 25 = .ok (.iaload, 1) := by decide +kernel
theorem dX11_agrees_26 : decode cX11_agrees 26 = .ok (.if_icmp .eq 5, 3) := by decide +kernel
theorem dX11_agrees_29 : decode cX11_agrees 29 = .ok (.iconst 0, 1) := by decide +kernel
theorem dX11_agrees_30 : decode cX11_agrees 30 = .ok (.ireturn, 1) := by decide +kernel
theorem dX11_agrees_31 : decode cX11_agrees 31 = .ok (.iload_n 1, 1) := by decide +kernel
theorem dX11_agrees_32 : decode cX11_agrees 32 = .ok (.aload_n 0, 1) := by decide +kernel
theorem dX11_agrees_33 : decode cX11_agrees 33 = .ok (.getfield 14, 3) := by decide +kernel
theorem dX11_agrees_36 : decode cX11_agrees 36 = .ok (.iload_n 2, 1) := by decide +kernel
theorem dX11_agrees_37 : decode cX11_agrees 37 = .ok (.iaload, 1) := by decide +kernel
theorem dX11_agrees_38 : decode cX11_agrees 38 = .ok (.ifCond .ge 7, 3) := by decide +kernel
theorem dX11_agrees_41 : decode cX11_agrees 41 = .ok (.iconst 1, 1) := by decide +kernel
theorem dX11_agrees_42 : decode cX11_agrees 42 = .ok (.goto 4, 3) := by decide +kernel
theorem dX11_agrees_45 : decode cX11_agrees 45 = .ok (.iconst 0, 1) := by decide +kernel
theorem dX11_agrees_46 : decode cX11_agrees 46 = .ok (.iadd, 1) := by decide +kernel
theorem dX11_agrees_47 : decode cX11_agrees 47 = .ok (.istore_n 1, 1) := by decide +kernel
theorem dX11_agrees_48 : decode cX11_agrees 48 = .ok (.iinc 2 1, 3) := by decide +kernel
theorem dX11_agrees_51 : decode cX11_agrees 51 = .ok (.goto (-47), 3) := by decide +kernel
theorem dX11_agrees_54 : decode cX11_agrees 54 = .ok (.iconst 0, 1) := by decide +kernel
theorem dX11_agrees_55 : decode cX11_agrees 55 = .ok (.istore_n 2, 1) := by decide +kernel
theorem dX11_agrees_56 : decode cX11_agrees 56 = .ok (.aload_n 0, 1) := by decide +kernel
theorem dX11_agrees_57 : decode cX11_agrees 57 = .ok (.iconst 0, 1) := by decide +kernel
theorem dX11_agrees_58 : decode cX11_agrees 58 = .ok (.iconst 0, 1) := by decide +kernel
theorem dX11_agrees_59 : decode cX11_agrees 59 = .ok (.invokevirtual 60, 3) := by decide +kernel
theorem dX11_agrees_62 : decode cX11_agrees 62 = .ok (.istore_n 3, 1) := by decide +kernel
theorem dX11_agrees_63 : decode cX11_agrees 63 = .ok (.iconst 0, 1) := by decide +kernel
theorem dX11_agrees_64 : decode cX11_agrees 64 = .ok (.istore 4, 2) := by decide +kernel
theorem dX11_agrees_66 : decode cX11_agrees 66 = .ok (.iload 4, 2) := by decide +kernel
theorem dX11_agrees_68 : decode cX11_agrees 68 = .ok (.aload_n 0, 1) := by decide +kernel
theorem dX11_agrees_69 : decode cX11_agrees 69 = .ok (.getfield 35, 3) := by decide +kernel
theorem dX11_agrees_72 : decode cX11_agrees 72 = .ok (.if_icmp .ge 159, 3) := by decide +kernel
theorem dX11_agrees_75 : decode cX11_agrees 75 = .ok (.iconst 0, 1) := by decide +kernel
theorem dX11_agrees_76 : decode cX11_agrees 76 = .ok (.istore 5, 2) := by decide +kernel
theorem dX11_agrees_78 : decode cX11_agrees 78 = .ok (.iload 5, 2) := by decide +kernel
theorem dX11_agrees_80 : decode cX11_agrees 80 = .ok (.aload_n 0, 1) := by decide +kernel
theorem dX11_agrees_81 : decode cX11_agrees 81 = .ok (.getfield 35, 3) := by decide +kernel
theorem dX11_agrees_84 : decode cX11_agrees 84 = .ok (.if_icmp .ge 71, 3) := by decide +kernel
theorem dX11_agrees_87 : decode cX11_agrees 87 = .ok (.aload_n 0, 1) := by decide +kernel
theorem dX11_agrees_88 : decode cX11_agrees 88 = .ok (.getfield 18, 3) := by decide +kernel
theorem dX11_agrees_91 : decode cX11_agrees 91 = .ok (.iload 4, 2) := by decide +kernel
theorem dX11_agrees_93 : decode cX11_agrees 93 = .ok (.iload 5, 2) := by decide +kernel
theorem dX11_agrees_95 : decode cX11_agrees 95 = .ok (.invokevirtual 63, 3) := by decide +kernel
theorem dX11_agrees_98 : decode cX11_agrees 98 = .ok (.aload_n 0, 1) := by decide +kernel
theorem dX11_agrees_99 : decode cX11_agrees 99 = .ok (.iload 4, 2) := by decide +kernel
theorem dX11_agrees_101 : decode cX11_agrees 101 = .ok (.iload 5, 2) := by decide +kernel
theorem dX11_agrees_103 : decode cX11_agrees 103 = .ok (.invokevirtual 60, 3) := by decide +kernel
theorem dX11_agrees_106 : decode cX11_agrees 106 = .ok (.if_icmp .ne 41, 3) := by decide +kernel
theorem dX11_agrees_109 : decode cX11_agrees 109 = .ok (.aload_n 0, 1) := by decide +kernel
theorem dX11_agrees_110 : decode cX11_agrees 110 = .ok (.getfield 18, 3) := by decide +kernel
theorem dX11_agrees_113 : decode cX11_agrees 113 = .ok (.iload 4, 2) := by decide +kernel
theorem dX11_agrees_115 : decode cX11_agrees 115 = .ok (.iload 5, 2) := by decide +kernel
theorem dX11_agrees_117 : decode cX11_agrees 117 = .ok (.invokevirtual 66, 3) := by decide +kernel
theorem dX11_agrees_120 : decode cX11_agrees 120 = .ok (.aload_n 0, 1) := by decide +kernel
theorem dX11_agrees_121 : decode cX11_agrees 121 = .ok (.iload 4, 2) := by decide +kernel
theorem dX11_agrees_123 : decode cX11_agrees 123 = .ok (.iload 5, 2) := by decide +kernel
theorem dX11_agrees_125 : decode cX11_agrees 125 = .ok (.invokevirtual 60, 3) := by decide +kernel
theorem dX11_agrees_128 : decode cX11_agrees 128 = .ok (.aload_n 0, 1) := by decide +kernel
theorem dX11_agrees_129 : decode cX11_agrees 129 = .ok (.iload 4, 2) := by decide +kernel
theorem dX11_agrees_131 : decode cX11_agrees 131 = .ok (.iload 4, 2) := by decide +kernel
theorem dX11_agrees_133 : decode cX11_agrees 133 = .ok (.invokevirtual 60, 3) := by decide +kernel
theorem dX11_agrees_136 : decode cX11_agrees 136 = .ok (.if_icmp .le 7, 3) := by decide +kernel
theorem dX11_agrees_139 : decode cX11_agrees 139 = .ok (.iconst 1, 1) := by decide +kernel
theorem dX11_agrees_140 : decode cX11_agrees 140 = .ok (.goto 4, 3) := by decide +kernel
theorem dX11_agrees_143 : decode cX11_agrees 143 = .ok (.iconst 0, 1) := by decide +kernel
theorem dX11_agrees_144 : decode cX11_agrees 144 = .ok (.if_icmp .eq 5, 3) := by decide +kernel
theorem dX11_agrees_147 : decode cX11_agrees 147 = .ok (.iconst 0, 1) := by decide +kernel
theorem dX11_agrees_148 : decode cX11_agrees 148 = .ok (.ireturn, 1) := by decide +kernel
theorem dX11_agrees_149 : decode cX11_agrees 149 = .ok (.iinc 5 1, 3) := by decide +kernel
theorem dX11_agrees_152 : decode cX11_agrees 152 = .ok (.goto (-74), 3) := by decide +kernel
theorem dX11_agrees_155 : decode cX11_agrees 155 = .ok (.aload_n 0, 1) := by decide +kernel
theorem dX11_agrees_156 : decode cX11_agrees 156 = .ok (.getfield 18, 3) := by decide +kernel
theorem dX11_agrees_159 : decode cX11_agrees 159 = .ok (.iload 4, 2) := by decide +kernel
theorem dX11_agrees_161 : decode cX11_agrees 161 = .ok (.invokevirtual 70, 3) := by decide +kernel
theorem dX11_agrees_164 : decode cX11_agrees 164 = .ok (.aload_n 0, 1) := by decide +kernel
theorem dX11_agrees_165 : decode cX11_agrees 165 = .ok (.iload 4, 2) := by decide +kernel
theorem dX11_agrees_167 : decode cX11_agrees 167 = .ok (.iload 4, 2) := by decide +kernel
theorem dX11_agrees_169 : decode cX11_agrees 169 = .ok (.invokevirtual 60, 3) := by decide +kernel
theorem dX11_agrees_172 : decode cX11_agrees 172 = .ok (.aload_n 0, 1) := by decide +kernel
theorem dX11_agrees_173 : decode cX11_agrees 173 = .ok (.getfield 35, 3) := by decide +kernel
theorem dX11_agrees_176 : decode cX11_agrees 176 = .ok (.imul, 1) := by decide +kernel
theorem dX11_agrees_177 : decode cX11_agrees 177 = .ok (.aload_n 0, 1) := by decide +kernel
theorem dX11_agrees_178 : decode cX11_agrees 178 = .ok (.iload 4, 2) := by decide +kernel
theorem dX11_agrees_180 : decode cX11_agrees 180 = .ok (.iconst 0, 1) := by decide +kernel
theorem dX11_agrees_181 : decode cX11_agrees 181 = .ok (.aload_n 0, 1) := by decide +kernel
theorem dX11_agrees_182 : decode cX11_agrees 182 = .ok (.getfield 28, 3) := by decide +kernel
theorem dX11_agrees_185 : decode cX11_agrees 185 = .ok (.invokevirtual 44, 3) := by decide +kernel
theorem dX11_agrees_188 : decode cX11_agrees 188 = .ok (.if_icmp .lt 7, 3) := by decide +kernel
theorem dX11_agrees_191 : decode cX11_agrees 191 = .ok (.iconst 1, 1) := by decide +kernel
theorem dX11_agrees_192 : decode cX11_agrees 192 = .ok (.goto 4, 3) := by decide +kernel
theorem dX11_agrees_195 : decode cX11_agrees 195 = .ok (.iconst 0, 1) := by decide +kernel
theorem dX11_agrees_196 : decode cX11_agrees 196 = .ok (.if_icmp .eq 5, 3) := by decide +kernel
theorem dX11_agrees_199 : decode cX11_agrees 199 = .ok (.iconst 0, 1) := by decide +kernel
theorem dX11_agrees_200 : decode cX11_agrees 200 = .ok (.ireturn, 1) := by decide +kernel
theorem dX11_agrees_201 : decode cX11_agrees 201 = .ok (.iload_n 2, 1) := by decide +kernel
theorem dX11_agrees_202 : decode cX11_agrees 202 = .ok (.aload_n 0, 1) := by decide +kernel
theorem dX11_agrees_203 : decode cX11_agrees 203 = .ok (.iload 4, 2) := by decide +kernel
theorem dX11_agrees_205 : decode cX11_agrees 205 = .ok (.iload 4, 2) := by decide +kernel
theorem dX11_agrees_207 : decode cX11_agrees 207 = .ok (.invokevirtual 60, 3) := by decide +kernel
theorem dX11_agrees_210 : decode cX11_agrees 210 = .ok (.iadd, 1) := by decide +kernel
theorem dX11_agrees_211 : decode cX11_agrees 211 = .ok (.istore_n 2, 1) := by decide +kernel
theorem dX11_agrees_212 : decode cX11_agrees 212 = .ok (.iload_n 3, 1) := by decide +kernel
theorem dX11_agrees_213 : decode cX11_agrees 213 = .ok (.aload_n 0, 1) := by decide +kernel
theorem dX11_agrees_214 : decode cX11_agrees 214 = .ok (.iload 4, 2) := by decide +kernel
theorem dX11_agrees_216 : decode cX11_agrees 216 = .ok (.iload 4, 2) := by decide +kernel
theorem dX11_agrees_218 : decode cX11_agrees 218 = .ok (.invokevirtual 60, 3) := by decide +kernel
theorem dX11_agrees_221 : decode cX11_agrees 221 = .ok (.invokestatic 74, 3) := by decide +kernel
theorem dX11_agrees_224 : decode cX11_agrees 224 = .ok (.istore_n 3, 1) := by decide +kernel
theorem dX11_agrees_225 : decode cX11_agrees 225 = .ok (.iinc 4 1, 3) := by decide +kernel
theorem dX11_agrees_228 : decode cX11_agrees 228 = .ok (.goto (-162), 3) := by decide +kernel
theorem dX11_agrees_231 : decode cX11_agrees 231 = .ok (.aload_n 0, 1) := by decide +kernel
theorem dX11_agrees_232 : decode cX11_agrees 232 = .ok (.getfield 18, 3) := by decide +kernel
theorem dX11_agrees_235 : decode cX11_agrees 235 = .ok (.invokevirtual 77, 3) := by decide +kernel
theorem dX11_agrees_238 : decode cX11_agrees 238 = .ok (.iload_n 1, 1) := by decide +kernel
theorem dX11_agrees_239 : decode cX11_agrees 239 = .ok (.if_icmp .ne 39, 3) := by decide +kernel
theorem dX11_agrees_242 : decode cX11_agrees 242 = .ok (.aload_n 0, 1) := by decide +kernel
theorem dX11_agrees_243 : decode cX11_agrees 243 = .ok (.getfield 18, 3) := by decide +kernel
theorem dX11_agrees_246 : decode cX11_agrees 246 = .ok (.invokevirtual 80, 3) := by decide +kernel
theorem dX11_agrees_249 : decode cX11_agrees 249 = .ok (.iload_n 2, 1) := by decide +kernel
theorem dX11_agrees_250 : decode cX11_agrees 250 = .ok (.if_icmp .ne 28, 3) := by decide +kernel
theorem dX11_agrees_253 : decode cX11_agrees 253 = .ok (.aload_n 0, 1) := by decide +kernel
theorem dX11_agrees_254 : decode cX11_agrees 254 = .ok (.getfield 18, 3) := by decide +kernel
theorem dX11_agrees_257 : decode cX11_agrees 257 = .ok (.invokevirtual 83, 3) := by decide +kernel
theorem dX11_agrees_260 : decode cX11_agrees 260 = .ok (.iload_n 3, 1) := by decide +kernel
theorem dX11_agrees_261 : decode cX11_agrees 261 = .ok (.if_icmp .ne 17, 3) := by decide +kernel
theorem dX11_agrees_264 : decode cX11_agrees 264 = .ok (.aload_n 0, 1) := by decide +kernel
theorem dX11_agrees_265 : decode cX11_agrees 265 = .ok (.getfield 18, 3) := by decide +kernel
theorem dX11_agrees_268 : decode cX11_agrees 268 = .ok (.invokevirtual 86, 3) := by decide +kernel
theorem dX11_agrees_271 : decode cX11_agrees 271 = .ok (.ifCond .ne 7, 3) := by decide +kernel
theorem dX11_agrees_274 : decode cX11_agrees 274 = .ok (.iconst 1, 1) := by decide +kernel
theorem dX11_agrees_275 : decode cX11_agrees 275 = .ok (.goto 4, 3) := by decide +kernel
theorem dX11_agrees_278 : decode cX11_agrees 278 = .ok (.iconst 0, 1) := by decide +kernel
theorem dX11_agrees_279 : decode cX11_agrees 279 = .ok (.ireturn, 1) := by decide +kernel
set_option maxRecDepth 20000 in
theorem ggX11_satisfied_X11_worth : GoodIn wsX11_satisfied wsX11_worth := goodIn_r _ [7, 2, 8, 9, 14, 15, 16, 17, 18] (by decide +kernel) (by decide +kernel)
set_option maxRecDepth 20000 in
theorem gX11_satisfied_X11_worth : GoodIn wsX11_satisfied (wsV RX11 60 RX11 yX11_worth wsX11_worth) := goodIn_app (goodIn_of _ (by decide +kernel)) ggX11_satisfied_X11_worth
set_option maxRecDepth 20000 in
theorem ggX11_satisfied_X11_sum : GoodIn wsX11_satisfied wsX11_sum := goodIn_r _ [13, 9, 14, 15, 16, 17, 18] (by decide +kernel) (by decide +kernel)
set_option maxRecDepth 20000 in
theorem gX11_satisfied_X11_sum : GoodIn wsX11_satisfied (wsV RX11 44 RX11 yX11_sum wsX11_sum) := goodIn_app (goodIn_of _ (by decide +kernel)) ggX11_satisfied_X11_sum
theorem dX11_satisfied_0 : decode cX11_satisfied 0 = .ok (.iconst 0, 1) := by decide +kernel
theorem dX11_satisfied_1 : decode cX11_satisfied 1 = .ok (.istore_n 1, 1) := by decide +kernel
theorem dX11_satisfied_2 : decode cX11_satisfied 2 = .ok (.iconst 0, 1) := by decide +kernel
theorem dX11_satisfied_3 : decode cX11_satisfied 3 = .ok (.istore_n 2, 1) := by decide +kernel
theorem dX11_satisfied_4 : decode cX11_satisfied 4 = .ok (.iload_n 2, 1) := by decide +kernel
theorem dX11_satisfied_5 : decode cX11_satisfied 5 = .ok (.aload_n 0, 1) := by decide +kernel
theorem dX11_satisfied_6 : decode cX11_satisfied 6 = .ok (.getfield 35, 3) := by decide +kernel
theorem dX11_satisfied_9 : decode cX11_satisfied 9 = .ok (.if_icmp .ge 41, 3) := by decide +kernel
theorem dX11_satisfied_12 : decode cX11_satisfied 12 = .ok (.iload_n 1, 1) := by decide +kernel
theorem dX11_satisfied_13 : decode cX11_satisfied 13 = .ok (.aload_n 0, 1) := by decide +kernel
theorem dX11_satisfied_14 : decode cX11_satisfied 14 = .ok (.iload_n 2, 1) := by decide +kernel
theorem dX11_satisfied_15 : decode cX11_satisfied 15 = .ok (.iload_n 2, 1) := by decide +kernel
theorem dX11_satisfied_16 : decode cX11_satisfied 16 = .ok (.invokevirtual 60, 3) := by decide +kernel
theorem dX11_satisfied_19 : decode cX11_satisfied 19 = .ok (.aload_n 0, 1) := by decide +kernel
theorem dX11_satisfied_20 : decode cX11_satisfied 20 = .ok (.getfield 35, 3) := by decide +kernel
theorem dX11_satisfied_23 : decode cX11_satisfied 23 = .ok (.imul, 1) := by decide +kernel
theorem dX11_satisfied_24 : decode cX11_satisfied 24 = .ok (.aload_n 0, 1) := by decide +kernel
theorem dX11_satisfied_25 : decode cX11_satisfied 25 = .ok (.iload_n 2, 1) := by decide +kernel
theorem dX11_satisfied_26 : decode cX11_satisfied 26 = .ok (.iconst 0, 1) := by decide +kernel
theorem dX11_satisfied_27 : decode cX11_satisfied 27 = .ok (.aload_n 0, 1) := by decide +kernel
theorem dX11_satisfied_28 : decode cX11_satisfied 28 = .ok (.getfield 28, 3) := by decide +kernel
theorem dX11_satisfied_31 : decode cX11_satisfied 31 = .ok (.invokevirtual 44, 3) := by decide +kernel
theorem dX11_satisfied_34 : decode cX11_satisfied 34 = .ok (.if_icmp .lt 7, 3) := by decide +kernel
theorem dX11_satisfied_37 : decode cX11_satisfied 37 = .ok (.iconst 1, 1) := by decide +kernel
theorem dX11_satisfied_38 : decode cX11_satisfied 38 = .ok (.goto 4, 3) := by decide +kernel
theorem dX11_satisfied_41 : decode cX11_satisfied 41 = .ok (.iconst 0, 1) := by decide +kernel
theorem dX11_satisfied_42 : decode cX11_satisfied 42 = .ok (.iadd, 1) := by decide +kernel
theorem dX11_satisfied_43 : decode cX11_satisfied 43 = .ok (.istore_n 1, 1) := by decide +kernel
theorem dX11_satisfied_44 : decode cX11_satisfied 44 = .ok (.iinc 2 1, 3) := by decide +kernel
theorem dX11_satisfied_47 : decode cX11_satisfied 47 = .ok (.goto (-43), 3) := by decide +kernel
theorem dX11_satisfied_50 : decode cX11_satisfied 50 = .ok (.iload_n 1, 1) := by decide +kernel
theorem dX11_satisfied_51 : decode cX11_satisfied 51 = .ok (.ireturn, 1) := by decide +kernel
theorem dL_pick_0 : decode cL_pick 0 = .ok (.iload_n 1, 1) := by decide +kernel
theorem dL_pick_1 : decode cL_pick 1 = .ok (.aload_n 0, 1) := by decide +kernel
theorem dL_pick_2 : decode cL_pick 2 = .ok (.arraylength, 1) := by decide +kernel
theorem dL_pick_3 : decode cL_pick 3 = .ok (.if_icmp .ge 14, 3) := by decide +kernel
theorem dL_pick_6 : decode cL_pick 6 = .ok (.aload_n 0, 1) := by decide +kernel
theorem dL_pick_7 : decode cL_pick 7 = .ok (.iload_n 1, 1) := by decide +kernel
theorem dL_pick_8 : decode cL_pick 8 = .ok (.iaload, 1) := by decide +kernel
theorem dL_pick_9 : decode cL_pick 9 = .ok (.ldc 7, 2) := by decide +kernel
theorem dL_pick_11 : decode cL_pick 11 = .ok (.iand, 1) := by decide +kernel
theorem dL_pick_12 : decode cL_pick 12 = .ok (.iload_n 2, 1) := by decide +kernel
theorem dL_pick_13 : decode cL_pick 13 = .ok (.irem, 1) := by decide +kernel
theorem dL_pick_14 : decode cL_pick 14 = .ok (.goto 4, 3) := by decide +kernel
theorem dL_pick_17 : decode cL_pick 17 = .ok (.iconst 0, 1) := by decide +kernel
theorem dL_pick_18 : decode cL_pick 18 = .ok (.ireturn, 1) := by decide +kernel
set_option maxRecDepth 20000 in
theorem ggL_word_J0_length_8abf5 : GoodIn wsL_word wsJ0_length_8abf5 := goodIn_r _ [5, 6, 7, 8, 9, 4, 10, 11, 12, 50, 51, 52, 53] (by decide +kernel) (by decide +kernel)
set_option maxRecDepth 20000 in
theorem gL_word_J0_length_8abf5 : GoodIn wsL_word (wsV RL 8 RJ0 yJ0_length_8abf5 wsJ0_length_8abf5) := goodIn_app (goodIn_of _ (by decide +kernel)) ggL_word_J0_length_8abf5
set_option maxRecDepth 20000 in
theorem ggL_word_J0_charAt_5068e : GoodIn wsL_word wsJ0_charAt_5068e := goodIn_r _ [16, 6, 17, 18, 19, 4, 20, 11, 12, 21, 22, 23, 24, 25, 26, 27, 28, 29, 30, 31, 32, 33, 34, 35, 36, 37, 38, 39, 40, 41, 42, 43, 44, 45, 46, 47, 48, 49, 50, 51, 52, 53] (by decide +kernel) (by decide +kernel)
set_option maxRecDepth 20000 in
theorem gL_word_J0_charAt_5068e : GoodIn wsL_word (wsV RL 14 RJ0 yJ0_charAt_5068e wsJ0_charAt_5068e) := goodIn_app (goodIn_of _ (by decide +kernel)) ggL_word_J0_charAt_5068e
theorem dL_word_0 : decode cL_word 0 = .ok (.iconst 0, 1) := by decide +kernel
theorem dL_word_1 : decode cL_word 1 = .ok (.istore_n 2, 1) := by decide +kernel
theorem dL_word_2 : decode cL_word 2 = .ok (.iload_n 1, 1) := by decide +kernel
theorem dL_word_3 : decode cL_word 3 = .ok (.istore_n 3, 1) := by decide +kernel
theorem dL_word_4 : decode cL_word 4 = .ok (.iload_n 3, 1) := by decide +kernel
theorem dL_word_5 : decode cL_word 5 = .ok (.iload_n 1, 1) := by decide +kernel
theorem dL_word_6 : decode cL_word 6 = .ok (.iconst 4, 1) := by decide +kernel
theorem dL_word_7 : decode cL_word 7 = .ok (.iadd, 1) := by decide +kernel
theorem dL_word_8 : decode cL_word 8 = .ok (.if_icmp .ge 33, 3) := by decide +kernel
theorem dL_word_11 : decode cL_word 11 = .ok (.iload_n 2, 1) := by decide +kernel
theorem dL_word_12 : decode cL_word 12 = .ok (.bipush 8, 2) := by decide +kernel
theorem dL_word_14 : decode cL_word 14 = .ok (.ishl, 1) := by decide +kernel
theorem dL_word_15 : decode cL_word 15 = .ok (.iload_n 3, 1) := by decide +kernel
theorem dL_word_16 : decode cL_word 16 = .ok (.aload_n 0, 1) := by decide +kernel
theorem dL_word_17 : decode cL_word 17 = .ok (.invokevirtual 8, 3) := by decide +kernel
theorem dL_word_20 : decode cL_word 20 = .ok (.if_icmp .ge 11, 3) := by decide +kernel
theorem dL_word_23 : decode cL_word 23 = .ok (.aload_n 0, 1) := by decide +kernel
theorem dL_word_24 : decode cL_word 24 = .ok (.iload_n 3, 1) := by decide +kernel
theorem dL_word_25 : decode cL_word 25 = .ok (.invokevirtual 14, 3) := by decide +kernel
theorem dL_word_28 : decode cL_word 28 = .ok (.goto 5, 3) := by decide +kernel
theorem dL_word_31 : decode cL_word 31 = .ok (.bipush 32, 2) := by decide +kernel
theorem dL_word_33 : decode cL_word 33 = .ok (.ior, 1) := by decide +kernel
theorem dL_word_34 : decode cL_word 34 = .ok (.istore_n 2, 1) := by decide +kernel
theorem dL_word_35 : decode cL_word 35 = .ok (.iinc 3 1, 3) := by decide +kernel
theorem dL_word_38 : decode cL_word 38 = .ok (.goto (-34), 3) := by decide +kernel
theorem dL_word_41 : decode cL_word 41 = .ok (.iload_n 2, 1) := by decide +kernel
theorem dL_word_42 : decode cL_word 42 = .ok (.ireturn, 1) := by decide +kernel
set_option maxRecDepth 20000 in
theorem ggL_say_X10_truncate : GoodIn wsL_say wsX10_truncate := goodIn_ca (goodIn_r _ [5, 6, 7, 8, 9, 80, 81, 82, 83, 84, 85, 86, 87, 88, 89, 90, 91] (by decide +kernel) (by decide +kernel)) (goodIn_sub (fun _ h => List.mem_cons_of_mem _ (List.mem_append_left _ (List.mem_append_right _ h))) (by decide +kernel))
set_option maxRecDepth 20000 in
theorem gL_say_X10_truncate : GoodIn wsL_say (wsV RL 18 RX10 yX10_truncate wsX10_truncate) := goodIn_app (goodIn_of _ (by decide +kernel)) ggL_say_X10_truncate
set_option maxRecDepth 20000 in
theorem ggL_say_J0_length_8abf5 : GoodIn wsL_say wsJ0_length_8abf5 := goodIn_r _ [14, 15, 16, 17, 18, 13, 19, 20, 21, 92, 93, 94, 95] (by decide +kernel) (by decide +kernel)
set_option maxRecDepth 20000 in
theorem gL_say_J0_length_8abf5 : GoodIn wsL_say (wsV RL 8 RJ0 yJ0_length_8abf5 wsJ0_length_8abf5) := goodIn_app (goodIn_of _ (by decide +kernel)) ggL_say_J0_length_8abf5
set_option maxRecDepth 20000 in
theorem ggL_say_L_word : GoodIn wsL_say wsL_word := goodIn_r _ [25, 10, 11, 12, 13, 14, 15, 16, 17, 18, 19, 20, 21, 26, 27, 28, 29, 30, 31, 32, 33, 34, 35, 36, 37, 38, 39, 40, 41, 42, 43, 44, 45, 46, 47, 48, 49, 50, 51, 52, 53, 54, 55, 56, 57, 58, 59, 60, 61, 62, 92, 93, 94, 95] (by decide +kernel) (by decide +kernel)
set_option maxRecDepth 20000 in
theorem gL_say_L_word : GoodIn wsL_say (va_wsS RL 24 yL_word wsL_word) := goodIn_app (goodIn_of _ (by decide +kernel)) ggL_say_L_word
set_option maxRecDepth 20000 in
theorem ggL_say_X10_append : GoodIn wsL_say wsX10_append := goodIn_ca (goodIn_r _ [66, 67, 68, 8, 9, 69, 70, 71, 72, 73, 74, 75, 76, 77, 78, 79, 80, 81, 82, 83, 84, 85, 86, 87, 88, 89, 90, 91] (by decide +kernel) (by decide +kernel)) (goodIn_sub (fun _ h => List.mem_cons_of_mem _ (List.mem_append_right _ h)) (by decide +kernel))
set_option maxRecDepth 20000 in
theorem gL_say_X10_append : GoodIn wsL_say (wsV RL 30 RX10 yX10_append wsX10_append) := goodIn_app (goodIn_of _ (by decide +kernel)) ggL_say_X10_append
theorem dL_say_0 : decode cL_say 0 = .ok (.aload_n 0, 1) := by decide +kernel
theorem dL_say_1 : decode cL_say 1 = .ok (.iconst 0, 1) := by decide +kernel
theorem dL_say_2 : decode cL_say 2 = .ok (.invokevirtual 18, 3) := by decide +kernel
theorem dL_say_5 : decode cL_say 5 = .ok (.pop, 1) := by decide +kernel
theorem dL_say_6 : decode cL_say 6 = .ok (.iconst 0, 1) := by decide +kernel
theorem dL_say_7 : decode cL_say 7 = .ok (.istore_n 2, 1) := by decide +kernel
theorem dL_say_8 : decode cL_say 8 = .ok (.iload_n 2, 1) := by decide +kernel
theorem dL_say_9 : decode cL_say 9 = .ok (.aload_n 1, 1) := by decide +kernel
theorem dL_say_10 : decode cL_say 10 = .ok (.invokevirtual 8, 3) := by decide +kernel
theorem dL_say_13 : decode cL_say 13 = .ok (.if_icmp .ge 50, 3) := by decide +kernel
theorem dL_say_16 : decode cL_say 16 = .ok (.aload_n 0, 1) := by decide +kernel
theorem dL_say_17 : decode cL_say 17 = .ok (.aload_n 1, 1) := by decide +kernel
theorem dL_say_18 : decode cL_say 18 = .ok (.iload_n 2, 1) := by decide +kernel
theorem dL_say_19 : decode cL_say 19 = .ok (.invokestatic 24, 3) := by decide +kernel
theorem dL_say_22 : decode cL_say 22 = .ok (.aload_n 1, 1) := by decide +kernel
theorem dL_say_23 : decode cL_say 23 = .ok (.iload_n 2, 1) := by decide +kernel
theorem dL_say_24 : decode cL_say 24 = .ok (.iconst 4, 1) := by decide +kernel
theorem dL_say_25 : decode cL_say 25 = .ok (.iadd, 1) := by decide +kernel
theorem dL_say_26 : decode cL_say 26 = .ok (.invokestatic 24, 3) := by decide +kernel
theorem dL_say_29 : decode cL_say 29 = .ok (.aload_n 1, 1) := by decide +kernel
theorem dL_say_30 : decode cL_say 30 = .ok (.iload_n 2, 1) := by decide +kernel
theorem dL_say_31 : decode cL_say 31 = .ok (.bipush 8, 2) := by decide +kernel
theorem dL_say_33 : decode cL_say 33 = .ok (.iadd, 1) := by decide +kernel
theorem dL_say_34 : decode cL_say 34 = .ok (.invokestatic 24, 3) := by decide +kernel
theorem dL_say_37 : decode cL_say 37 = .ok (.aload_n 1, 1) := by decide +kernel
theorem dL_say_38 : decode cL_say 38 = .ok (.iload_n 2, 1) := by decide +kernel
theorem dL_say_39 : decode cL_say 39 = .ok (.bipush 12, 2) := by decide +kernel
theorem dL_say_41 : decode cL_say 41 = .ok (.iadd, 1) := by decide +kernel
theorem dL_say_42 : decode cL_say 42 = .ok (.invokestatic 24, 3) := by decide +kernel
theorem dL_say_45 : decode cL_say 45 = .ok (.aload_n 1, 1) := by decide +kernel
theorem dL_say_46 : decode cL_say 46 = .ok (.iload_n 2, 1) := by decide +kernel
theorem dL_say_47 : decode cL_say 47 = .ok (.bipush 16, 2) := by decide +kernel
theorem dL_say_49 : decode cL_say 49 = .ok (.iadd, 1) := by decide +kernel
theorem dL_say_50 : decode cL_say 50 = .ok (.invokestatic 24, 3) := by decide +kernel
theorem dL_say_53 : decode cL_say 53 = .ok (.invokevirtual 30, 3) := by decide +kernel
theorem dL_say_56 : decode cL_say 56 = .ok (.pop, 1) := by decide +kernel
theorem dL_say_57 : decode cL_say 57 = .ok (.iinc 2 20, 3) := by decide +kernel
theorem dL_say_60 : decode cL_say 60 = .ok (.goto (-52), 3) := by decide +kernel
theorem dL_say_63 : decode cL_say 63 = .ok (.aload_n 0, 1) := by decide +kernel
theorem dL_say_64 : decode cL_say 64 = .ok (.aload_n 1, 1) := by decide +kernel
theorem dL_say_65 : decode cL_say 65 = .ok (.invokevirtual 8, 3) := by decide +kernel
theorem dL_say_68 : decode cL_say 68 = .ok (.invokevirtual 18, 3) := by decide +kernel
theorem dL_say_71 : decode cL_say 71 = .ok (.aload_n 1, 1) := by decide +kernel
theorem dL_say_72 : decode cL_say 72 = .ok (.invokevirtual 8, 3) := by decide +kernel
theorem dL_say_75 : decode cL_say 75 = .ok (.if_icmp .ne 7, 3) := by decide +kernel
theorem dL_say_78 : decode cL_say 78 = .ok (.iconst 1, 1) := by decide +kernel
theorem dL_say_79 : decode cL_say 79 = .ok (.goto 4, 3) := by decide +kernel
theorem dL_say_82 : decode cL_say 82 = .ok (.iconst 0, 1) := by decide +kernel
theorem dL_say_83 : decode cL_say 83 = .ok (.ireturn, 1) := by decide +kernel
set_option maxRecDepth 20000 in
theorem ggL_setup_J4_init_a7421 : GoodIn wsL_setup wsJ4_init_a7421 := goodIn_r _ [7, 8, 9, 10, 11, 12, 13, 14, 15, 16, 17, 18, 19, 20, 21, 22, 23, 24, 25, 26, 27, 28, 29, 30, 31, 32, 33, 34, 35, 36, 37, 38, 39, 40, 41, 42, 43, 44, 45, 3, 46, 47, 48, 49, 50, 51, 52, 53, 54, 55, 56, 57, 58, 59, 60, 61, 62, 63, 64, 65, 66, 67, 68, 69, 70, 71, 72, 73, 74, 75, 76, 77, 78, 79, 80, 81, 82, 83, 84, 85, 86, 87, 88, 89, 90, 91, 92, 93, 94, 95, 96, 97, 98, 99, 100, 101, 102, 103, 104, 105, 106, 107, 108, 109, 110, 111, 112, 113, 114, 115, 116, 117, 118, 119, 120, 121, 122, 123, 124, 125, 126, 127, 128, 129, 130, 131, 132, 133, 134, 135, 136, 137, 138, 139, 140, 141, 142, 143, 144, 145, 146, 147, 148, 149, 150, 151, 152, 153, 154, 155, 156, 157, 158, 159, 160, 161, 162, 163, 164, 165, 271, 272, 273, 274, 275, 276, 277, 278] (by decide +kernel) (by decide +kernel)
set_option maxRecDepth 20000 in
theorem gL_setup_J4_init_a7421 : GoodIn wsL_setup (wsJ4_init_a7421) := ggL_setup_J4_init_a7421
set_option maxRecDepth 20000 in
theorem ggL_setup_J4_append_bf812 : GoodIn wsL_setup wsJ4_append_bf812 := goodIn_r _ [169, 170, 171, 52, 172, 10, 173, 55, 19, 174, 175, 176, 177, 61, 62, 63, 64, 65, 17, 66, 67, 68, 69, 70, 16, 71, 72, 73, 74, 75, 76, 77, 78, 79, 80, 81, 82, 83, 84, 85, 86, 87, 88, 89, 90, 91, 92, 18, 93, 94, 95, 96, 97, 98, 99, 100, 101, 102, 103, 104, 105, 178, 179, 180, 181, 182, 183, 184, 35, 185, 109, 110, 111, 112, 113, 114, 115, 116, 117, 23, 118, 119, 120, 121, 122, 123, 186, 187, 188, 189, 190, 124, 125, 126, 127, 128, 271, 272, 273, 274] (by decide +kernel) (by decide +kernel)
set_option maxRecDepth 20000 in
theorem gL_setup_J4_append_bf812 : GoodIn wsL_setup (wsV RL 41 RJ4 yJ4_append_bf812 wsJ4_append_bf812) := goodIn_app (goodIn_of _ (by decide +kernel)) ggL_setup_J4_append_bf812
set_option maxRecDepth 20000 in
theorem ggL_setup_J4_append_cf468 : GoodIn wsL_setup wsJ4_append_cf468 := goodIn_r _ [194, 195, 196, 52, 197, 10, 198, 55, 19, 61, 62, 63, 64, 65, 17, 66, 67, 68, 69, 70, 16, 71, 72, 73, 74, 75, 76, 77, 78, 79, 80, 81, 82, 83, 84, 85, 86, 87, 88, 89, 90, 91, 92, 18, 93, 94, 95, 96, 97, 98, 99, 100, 101, 102, 103, 104, 105, 199, 200, 146, 201, 139, 140, 141, 142, 143, 33, 34, 35, 36, 37, 38, 39, 40, 144, 145, 147, 148, 149, 150, 151, 152, 153, 113, 114, 115, 154, 155, 23, 156, 119, 157, 158, 122, 159, 124, 125, 126, 109, 127, 128, 202, 203, 204, 205, 206, 207, 208, 209, 210, 211, 212, 213, 271, 272, 273, 274] (by decide +kernel) (by decide +kernel)
set_option maxRecDepth 20000 in
theorem gL_setup_J4_append_cf468 : GoodIn wsL_setup (wsV RL 44 RJ4 yJ4_append_cf468 wsJ4_append_cf468) := goodIn_app (goodIn_of _ (by decide +kernel)) ggL_setup_J4_append_cf468
set_option maxRecDepth 20000 in
theorem ggL_setup_J4_append_15ec4 : GoodIn wsL_setup wsJ4_append_15ec4 := goodIn_r _ [50, 51, 42, 52, 53, 10, 54, 55, 56, 57, 58, 59, 60, 19, 61, 62, 63, 64, 65, 17, 66, 67, 68, 69, 70, 16, 71, 72, 73, 74, 75, 76, 77, 78, 79, 80, 81, 82, 83, 84, 85, 86, 87, 88, 89, 90, 91, 92, 18, 93, 94, 95, 96, 97, 98, 99, 100, 101, 102, 103, 104, 105, 106, 107, 35, 108, 109, 110, 111, 112, 113, 114, 115, 116, 117, 23, 118, 119, 120, 121, 122, 123, 124, 125, 126, 127, 128, 20, 21, 22, 24, 25, 26, 27, 28, 29, 30, 31, 129, 130, 131, 132, 133, 134, 135, 136, 137, 138, 32, 139, 140, 141, 142, 143, 33, 34, 36, 37, 38, 39, 40, 144, 145, 146, 147, 148, 149, 150, 151, 152, 153, 154, 155, 156, 157, 158, 159, 160, 161, 162, 163, 164, 165, 271, 272, 273, 274, 275, 276, 277, 278] (by decide +kernel) (by decide +kernel)
set_option maxRecDepth 20000 in
theorem gL_setup_J4_append_15ec4 : GoodIn wsL_setup (wsV RL 49 RJ4 yJ4_append_15ec4 wsJ4_append_15ec4) := goodIn_app (goodIn_of _ (by decide +kernel)) ggL_setup_J4_append_15ec4
set_option maxRecDepth 20000 in
theorem ggL_setup_L_pick : GoodIn wsL_setup wsL_pick := goodIn_r _ [218, 219] (by decide +kernel) (by decide +kernel)
set_option maxRecDepth 20000 in
theorem gL_setup_L_pick : GoodIn wsL_setup (va_wsS RL 53 yL_pick wsL_pick) := goodIn_app (goodIn_of _ (by decide +kernel)) ggL_setup_L_pick
set_option maxRecDepth 20000 in
theorem ggL_setup_J4_toString_0e30d : GoodIn wsL_setup wsJ4_toString_0e30d := goodIn_r _ [223, 224, 225, 23, 226, 227, 228, 229, 230, 231, 232, 13, 14, 31, 25, 30, 233, 234, 235, 236, 237, 10, 238, 19, 239, 240, 241, 242, 243, 3, 244, 245, 52, 246, 247, 55, 248, 101, 102, 103, 104, 105, 17, 249, 250, 85, 251, 87, 88, 89, 90, 91, 92, 252, 253, 254, 18, 93, 94, 77, 95, 96, 97, 98, 99, 255, 256, 257, 258, 259, 35, 260, 261, 262, 263, 151, 152, 153, 113, 114, 115, 154, 155, 156, 119, 157, 158, 122, 159, 264, 265, 266, 109, 127, 128, 37, 38, 39, 40, 267, 268, 269, 270, 275, 276, 277, 278, 271, 272, 273, 274] (by decide +kernel) (by decide +kernel)
set_option maxRecDepth 20000 in
theorem gL_setup_J4_toString_0e30d : GoodIn wsL_setup (wsV RL 57 RJ4 yJ4_toString_0e30d wsJ4_toString_0e30d) := goodIn_app (goodIn_of _ (by decide +kernel)) ggL_setup_J4_toString_0e30d
theorem dL_setup_0 : decode cL_setup 0 = .ok (.new 34, 3) := by decide +kernel
theorem dL_setup_3 : decode cL_setup 3 = .ok (.dup, 1) := by decide +kernel
theorem dL_setup_4 : decode cL_setup 4 = .ok (.ldc 36, 2) := by decide +kernel
theorem dL_setup_6 : decode cL_setup 6 = .ok (.invokespecial 38, 3) := by decide +kernel
theorem dL_setup_9 : decode cL_setup 9 = .ok (.iload_n 1, 1) := by decide +kernel
theorem dL_setup_10 : decode cL_setup 10 = .ok (.invokevirtual 41, 3) := by decide +kernel
theorem dL_setup_13 : decode cL_setup 13 = .ok (.bipush 59, 2) := by decide +kernel
theorem dL_setup_15 : decode cL_setup 15 = .ok (.invokevirtual 44, 3) := by decide +kernel
theorem dL_setup_18 : decode cL_setup 18 = .ok (.astore_n 3, 1) := by decide +kernel
theorem dL_setup_19 : decode cL_setup 19 = .ok (.iconst 0, 1) := by decide +kernel
theorem dL_setup_20 : decode cL_setup 20 = .ok (.istore 4, 2) := by decide +kernel
theorem dL_setup_22 : decode cL_setup 22 = .ok (.iload 4, 2) := by decide +kernel
theorem dL_setup_24 : decode cL_setup 24 = .ok (.iload_n 2, 1) := by decide +kernel
theorem dL_setup_25 : decode cL_setup 25 = .ok (.if_icmp .ge 94, 3) := by decide +kernel
theorem dL_setup_28 : decode cL_setup 28 = .ok (.aload_n 3, 1) := by decide +kernel
theorem dL_setup_29 : decode cL_setup 29 = .ok (.ldc 47, 2) := by decide +kernel
theorem dL_setup_31 : decode cL_setup 31 = .ok (.invokevirtual 49, 3) := by decide +kernel
theorem dL_setup_34 : decode cL_setup 34 = .ok (.bipush 97, 2) := by decide +kernel
theorem dL_setup_36 : decode cL_setup 36 = .ok (.iload 4, 2) := by decide +kernel
theorem dL_setup_38 : decode cL_setup 38 = .ok (.iadd, 1) := by decide +kernel
theorem dL_setup_39 : decode cL_setup 39 = .ok (.i2c, 1) := by decide +kernel
theorem dL_setup_40 : decode cL_setup 40 = .ok (.invokevirtual 44, 3) := by decide +kernel
theorem dL_setup_43 : decode cL_setup 43 = .ok (.pop, 1) := by decide +kernel
theorem dL_setup_44 : decode cL_setup 44 = .ok (.iconst 0, 1) := by decide +kernel
theorem dL_setup_45 : decode cL_setup 45 = .ok (.istore 5, 2) := by decide +kernel
theorem dL_setup_47 : decode cL_setup 47 = .ok (.iload 5, 2) := by decide +kernel
theorem dL_setup_49 : decode cL_setup 49 = .ok (.iload_n 1, 1) := by decide +kernel
theorem dL_setup_50 : decode cL_setup 50 = .ok (.if_icmp .ge 56, 3) := by decide +kernel
theorem dL_setup_53 : decode cL_setup 53 = .ok (.aload_n 3, 1) := by decide +kernel
theorem dL_setup_54 : decode cL_setup 54 = .ok (.bipush 32, 2) := by decide +kernel
theorem dL_setup_56 : decode cL_setup 56 = .ok (.invokevirtual 44, 3) := by decide +kernel
theorem dL_setup_59 : decode cL_setup 59 = .ok (.aload_n 0, 1) := by decide +kernel
theorem dL_setup_60 : decode cL_setup 60 = .ok (.iconst 2, 1) := by decide +kernel
theorem dL_setup_61 : decode cL_setup 61 = .ok (.iload 4, 2) := by decide +kernel
theorem dL_setup_63 : decode cL_setup 63 = .ok (.iconst 2, 1) := by decide +kernel
theorem dL_setup_64 : decode cL_setup 64 = .ok (.imul, 1) := by decide +kernel
theorem dL_setup_65 : decode cL_setup 65 = .ok (.iadd, 1) := by decide +kernel
theorem dL_setup_66 : decode cL_setup 66 = .ok (.iload 5, 2) := by decide +kernel
theorem dL_setup_68 : decode cL_setup 68 = .ok (.iconst 2, 1) := by decide +kernel
theorem dL_setup_69 : decode cL_setup 69 = .ok (.irem, 1) := by decide +kernel
theorem dL_setup_70 : decode cL_setup 70 = .ok (.iadd, 1) := by decide +kernel
theorem dL_setup_71 : decode cL_setup 71 = .ok (.ldc 52, 2) := by decide +kernel
theorem dL_setup_73 : decode cL_setup 73 = .ok (.invokestatic 53, 3) := by decide +kernel
theorem dL_setup_76 : decode cL_setup 76 = .ok (.iconst 1, 1) := by decide +kernel
theorem dL_setup_77 : decode cL_setup 77 = .ok (.iload 5, 2) := by decide +kernel
theorem dL_setup_79 : decode cL_setup 79 = .ok (.bipush 37, 2) := by decide +kernel
theorem dL_setup_81 : decode cL_setup 81 = .ok (.imul, 1) := by decide +kernel
theorem dL_setup_82 : decode cL_setup 82 = .ok (.iadd, 1) := by decide +kernel
theorem dL_setup_83 : decode cL_setup 83 = .ok (.iload 5, 2) := by decide +kernel
theorem dL_setup_85 : decode cL_setup 85 = .ok (.iload 5, 2) := by decide +kernel
theorem dL_setup_87 : decode cL_setup 87 = .ok (.imul, 1) := by decide +kernel
theorem dL_setup_88 : decode cL_setup 88 = .ok (.bipush 11, 2) := by decide +kernel
theorem dL_setup_90 : decode cL_setup 90 = .ok (.imul, 1) := by decide +kernel
theorem dL_setup_91 : decode cL_setup 91 = .ok (.iadd, 1) := by decide +kernel
theorem dL_setup_92 : decode cL_setup 92 = .ok (.idiv, 1) := by decide +kernel
theorem dL_setup_93 : decode cL_setup 93 = .ok (.bipush 10, 2) := by decide +kernel
theorem dL_setup_95 : decode cL_setup 95 = .ok (.irem, 1) := by decide +kernel
theorem dL_setup_96 : decode cL_setup 96 = .ok (.invokevirtual 41, 3) := by decide +kernel
theorem dL_setup_99 : decode cL_setup 99 = .ok (.pop, 1) := by decide +kernel
theorem dL_setup_100 : decode cL_setup 100 = .ok (.iinc 5 1, 3) := by decide +kernel
theorem dL_setup_103 : decode cL_setup 103 = .ok (.goto (-56), 3) := by decide +kernel
theorem dL_setup_106 : decode cL_setup 106 = .ok (.aload_n 3, 1) := by decide +kernel
theorem dL_setup_107 : decode cL_setup 107 = .ok (.bipush 59, 2) := by decide +kernel
theorem dL_setup_109 : decode cL_setup 109 = .ok (.invokevirtual 44, 3) := by decide +kernel
theorem dL_setup_112 : decode cL_setup 112 = .ok (.pop, 1) := by decide +kernel
theorem dL_setup_113 : decode cL_setup 113 = .ok (.iinc 4 1, 3) := by decide +kernel
theorem dL_setup_116 : decode cL_setup 116 = .ok (.goto (-94), 3) := by decide +kernel
theorem dL_setup_119 : decode cL_setup 119 = .ok (.aload_n 3, 1) := by decide +kernel
theorem dL_setup_120 : decode cL_setup 120 = .ok (.invokevirtual 57, 3) := by decide +kernel
theorem dL_setup_123 : decode cL_setup 123 = .ok (.areturn, 1) := by decide +kernel
set_option maxRecDepth 20000 in
theorem ggL_act_X10_siblingCount : GoodIn wsL_act wsX10_siblingCount := goodIn_r _ [7, 8, 9, 261, 262, 263, 264, 265, 266, 267, 268, 269, 270, 271, 272, 273, 274, 275, 276] (by decide +kernel) (by decide +kernel)
set_option maxRecDepth 20000 in
theorem gL_act_X10_siblingCount : GoodIn wsL_act (wsV RL 61 RX10 yX10_siblingCount wsX10_siblingCount) := goodIn_app (goodIn_of _ (by decide +kernel)) ggL_act_X10_siblingCount
set_option maxRecDepth 20000 in
theorem ggL_act_X10_cellCount : GoodIn wsL_act wsX10_cellCount := goodIn_r _ [13, 8, 14, 261, 262, 263, 264, 265, 266, 267, 268, 269, 270, 271, 272, 273, 274, 275, 276] (by decide +kernel) (by decide +kernel)
set_option maxRecDepth 20000 in
theorem gL_act_X10_cellCount : GoodIn wsL_act (wsV RL 64 RX10 yX10_cellCount wsX10_cellCount) := goodIn_app (goodIn_of _ (by decide +kernel)) ggL_act_X10_cellCount
set_option maxRecDepth 20000 in
theorem ggL_act_X10_give : GoodIn wsL_act wsX10_give := goodIn_ca (goodIn_ca (goodIn_r _ [18, 19, 8, 20, 21, 22, 23, 6, 24, 25, 26, 27, 28, 29, 30, 31, 32, 33, 34, 35, 36, 37, 38, 39, 40, 41, 42, 43, 44, 45, 46, 47, 48, 49, 50, 51, 52, 53, 54, 55, 56, 57, 58, 59, 60, 61, 62, 63, 64, 65, 66, 67, 68, 69, 70, 71, 72, 73, 74, 75, 76, 77, 78, 79, 80, 81, 82, 83, 84, 261, 262, 263, 264, 265, 266, 267, 268, 269, 270, 271, 272, 273, 274, 275, 276, 277, 278, 279, 280, 281] (by decide +kernel) (by decide +kernel)) (goodIn_sub (fun _ h => List.mem_cons_of_mem _ (List.mem_append_left _ (List.mem_append_left _ (List.mem_append_right _ h)))) (by decide +kernel))) (goodIn_sub (fun _ h => List.mem_cons_of_mem _ (List.mem_append_left _ (List.mem_append_right _ h))) (by decide +kernel))
set_option maxRecDepth 20000 in
theorem gL_act_X10_give : GoodIn wsL_act (wsV RL 68 RX10 yX10_give wsX10_give) := goodIn_app (goodIn_of _ (by decide +kernel)) ggL_act_X10_give
set_option maxRecDepth 20000 in
theorem ggL_act_X10_release : GoodIn wsL_act wsX10_release := goodIn_ca (goodIn_r _ [88, 19, 8, 20, 33, 34, 35, 6, 36, 37, 38, 39, 40, 41, 30, 42, 43, 44, 45, 46, 47, 48, 49, 50, 51, 52, 53, 54, 55, 56, 57, 58, 59, 60, 61, 62, 63, 64, 65, 66, 67, 68, 69, 70, 71, 72, 73, 74, 89, 90, 91, 92, 79, 261, 262, 263, 264, 265, 266, 267, 268, 269, 270, 271, 272, 273, 274, 275, 276, 277, 278, 279, 280, 281] (by decide +kernel) (by decide +kernel)) (goodIn_sub (fun _ h => List.mem_cons_of_mem _ (List.mem_append_left _ (List.mem_append_right _ h))) (by decide +kernel))
set_option maxRecDepth 20000 in
theorem gL_act_X10_release : GoodIn wsL_act (wsV RL 72 RX10 yX10_release wsX10_release) := goodIn_app (goodIn_of _ (by decide +kernel)) ggL_act_X10_release
set_option maxRecDepth 20000 in
theorem ggL_act_X10_swapShares : GoodIn wsL_act wsX10_swapShares := goodIn_ca (goodIn_ca (goodIn_r _ [96, 19, 8, 97, 21, 22, 23, 6, 24, 25, 26, 27, 28, 29, 30, 31, 32, 98, 99, 100, 101, 102, 103, 48, 49, 50, 51, 52, 53, 54, 55, 56, 57, 58, 59, 60, 61, 62, 63, 64, 65, 66, 67, 68, 69, 70, 104, 105, 106, 107, 47, 79, 108, 109, 110, 111, 112, 113, 114, 115, 116, 117, 118, 119, 120, 121, 122, 123, 124, 81, 82, 83, 84, 261, 262, 263, 264, 265, 266, 267, 268, 269, 270, 271, 272, 273, 274, 275, 276, 277, 278, 279, 280, 281, 282, 283, 284, 285] (by decide +kernel) (by decide +kernel)) (goodIn_sub (fun _ h => List.mem_cons_of_mem _ (List.mem_append_left _ (List.mem_append_left _ (List.mem_append_right _ h)))) (by decide +kernel))) (goodIn_sub (fun _ h => List.mem_cons_of_mem _ (List.mem_append_right _ h)) (by decide +kernel))
set_option maxRecDepth 20000 in
theorem gL_act_X10_swapShares : GoodIn wsL_act (wsV RL 76 RX10 yX10_swapShares wsX10_swapShares) := goodIn_app (goodIn_of _ (by decide +kernel)) ggL_act_X10_swapShares
set_option maxRecDepth 20000 in
theorem ggL_act_X10_setValue : GoodIn wsL_act wsX10_setValue := goodIn_ca (goodIn_ca (goodIn_r _ [128, 37, 38, 19, 8, 21, 22, 23, 6, 24, 25, 26, 27, 28, 29, 30, 31, 32, 129, 130, 131, 132, 133, 44, 45, 46, 47, 48, 49, 50, 51, 52, 53, 54, 55, 56, 57, 58, 59, 60, 61, 62, 63, 64, 65, 66, 67, 68, 69, 70, 134, 135, 136, 137, 84, 138, 139, 140, 141, 261, 262, 263, 264, 265, 266, 267, 268, 269, 270, 271, 272, 273, 274, 275, 276, 277, 278, 279, 280, 281] (by decide +kernel) (by decide +kernel)) (goodIn_sub (fun _ h => List.mem_cons_of_mem _ (List.mem_append_left _ (List.mem_append_right _ h))) (by decide +kernel))) (goodIn_sub (fun _ h => List.mem_cons_of_mem _ (List.mem_append_left _ (List.mem_append_left _ (List.mem_append_right _ h)))) (by decide +kernel))
set_option maxRecDepth 20000 in
theorem gL_act_X10_setValue : GoodIn wsL_act (wsV RL 79 RX10 yX10_setValue wsX10_setValue) := goodIn_app (goodIn_of _ (by decide +kernel)) ggL_act_X10_setValue
set_option maxRecDepth 20000 in
theorem ggL_act_X10_roundRobin : GoodIn wsL_act wsX10_roundRobin := goodIn_ca (goodIn_r _ [145, 19, 8, 146, 20, 21, 22, 23, 6, 24, 25, 26, 27, 28, 29, 30, 31, 32, 48, 49, 50, 51, 52, 53, 54, 55, 56, 57, 58, 59, 60, 61, 62, 63, 64, 65, 66, 67, 68, 69, 70, 147, 148, 149, 150, 151, 152, 153, 154, 155, 156, 157, 158, 159, 135, 136, 137, 84, 261, 262, 263, 264, 265, 266, 267, 268, 269, 270, 271, 272, 273, 274, 275, 276, 277, 278, 279, 280, 281, 286, 287] (by decide +kernel) (by decide +kernel)) (goodIn_sub (fun _ h => List.mem_cons_of_mem _ (List.mem_append_left _ (List.mem_append_left _ (List.mem_append_right _ h)))) (by decide +kernel))
set_option maxRecDepth 20000 in
theorem gL_act_X10_roundRobin : GoodIn wsL_act (wsV RL 82 RX10 yX10_roundRobin wsX10_roundRobin) := goodIn_app (goodIn_of _ (by decide +kernel)) ggL_act_X10_roundRobin
set_option maxRecDepth 20000 in
theorem ggL_act_X10_envyCycleLength : GoodIn wsL_act wsX10_envyCycleLength := goodIn_ca (goodIn_r _ [163, 97, 21, 22, 23, 6, 24, 25, 26, 8, 27, 28, 29, 30, 31, 32, 164, 165, 166, 111, 167, 168, 169, 170, 171, 172, 113, 114, 173, 123, 124, 81, 82, 83, 47, 84, 174, 175, 176, 177, 178, 179, 180, 181, 182, 183, 184, 185, 186, 261, 262, 263, 264, 265, 266, 267, 268, 269, 270, 271, 272, 273, 274, 275, 276, 282, 283, 284, 285] (by decide +kernel) (by decide +kernel)) (goodIn_sub (fun _ h => List.mem_cons_of_mem _ (List.mem_append_left _ (List.mem_append_left _ (List.mem_append_right _ h)))) (by decide +kernel))
set_option maxRecDepth 20000 in
theorem gL_act_X10_envyCycleLength : GoodIn wsL_act (wsV RL 85 RX10 yX10_envyCycleLength wsX10_envyCycleLength) := goodIn_app (goodIn_of _ (by decide +kernel)) ggL_act_X10_envyCycleLength
set_option maxRecDepth 20000 in
theorem ggL_act_X10_rotate : GoodIn wsL_act wsX10_rotate := goodIn_ca (goodIn_ca (goodIn_r _ [190, 102, 103, 97, 19, 8, 21, 22, 23, 6, 24, 25, 26, 27, 28, 29, 30, 31, 32, 164, 165, 166, 111, 167, 168, 169, 170, 171, 172, 113, 114, 173, 123, 124, 81, 82, 83, 47, 84, 174, 175, 176, 177, 178, 179, 180, 181, 182, 183, 184, 185, 186, 48, 49, 50, 51, 52, 53, 54, 55, 56, 57, 58, 59, 60, 61, 62, 63, 64, 65, 66, 67, 68, 69, 70, 191, 192, 193, 194, 195, 196, 197, 198, 199, 200, 261, 262, 263, 264, 265, 266, 267, 268, 269, 270, 271, 272, 273, 274, 275, 276, 282, 283, 284, 285, 277, 278, 279, 280, 281] (by decide +kernel) (by decide +kernel)) (goodIn_sub (fun _ h => List.mem_cons_of_mem _ (List.mem_append_right _ h)) (by decide +kernel))) (goodIn_sub (fun _ h => List.mem_cons_of_mem _ (List.mem_append_left _ (List.mem_append_left _ (List.mem_append_right _ h)))) (by decide +kernel))
set_option maxRecDepth 20000 in
theorem gL_act_X10_rotate : GoodIn wsL_act (wsV RL 88 RX10 yX10_rotate wsX10_rotate) := goodIn_app (goodIn_of _ (by decide +kernel)) ggL_act_X10_rotate
set_option maxRecDepth 20000 in
theorem ggL_act_X10_movingKnife : GoodIn wsL_act wsX10_movingKnife := goodIn_r _ [204, 19, 8, 146, 20, 97, 48, 49, 50, 51, 52, 53, 54, 55, 56, 57, 58, 59, 60, 61, 62, 63, 64, 65, 66, 67, 68, 69, 70, 205, 206, 207, 150, 208, 152, 154, 153, 209, 210, 211, 212, 213, 214, 215, 216, 217, 218, 219, 220, 221, 222, 223, 224, 225, 226, 227, 30, 228, 84, 159, 135, 136, 137, 229, 72, 73, 74, 230, 231, 232, 111, 233, 113, 114, 234, 235, 236, 237, 238, 76, 77, 78, 79, 80, 81, 82, 83, 47, 239, 240, 241, 242, 243, 261, 262, 263, 264, 265, 266, 267, 268, 269, 270, 271, 272, 273, 274, 275, 276, 277, 278, 279, 280, 281, 286, 287, 282, 283, 284, 285] (by decide +kernel) (by decide +kernel)
set_option maxRecDepth 20000 in
theorem gL_act_X10_movingKnife : GoodIn wsL_act (wsV RL 91 RX10 yX10_movingKnife wsX10_movingKnife) := goodIn_app (goodIn_of _ (by decide +kernel)) ggL_act_X10_movingKnife
set_option maxRecDepth 20000 in
theorem ggL_act_X10_divideAndChoose : GoodIn wsL_act wsX10_divideAndChoose := goodIn_ca (goodIn_ca (goodIn_r _ [247, 19, 8, 146, 21, 22, 23, 6, 24, 25, 26, 27, 28, 29, 30, 31, 32, 98, 99, 100, 101, 102, 103, 48, 49, 50, 51, 52, 53, 54, 55, 56, 57, 58, 59, 60, 61, 62, 63, 64, 65, 66, 67, 68, 69, 70, 248, 249, 250, 150, 251, 152, 153, 252, 253, 254, 255, 256, 257, 258, 259, 260, 240, 241, 242, 47, 243, 226, 227, 228, 84, 159, 135, 136, 137, 225, 229, 72, 73, 74, 261, 262, 263, 264, 265, 266, 267, 268, 269, 270, 271, 272, 273, 274, 275, 276, 277, 278, 279, 280, 281, 286, 287] (by decide +kernel) (by decide +kernel)) (goodIn_sub (fun _ h => List.mem_cons_of_mem _ (List.mem_append_left _ (List.mem_append_left _ (List.mem_append_right _ h)))) (by decide +kernel))) (goodIn_sub (fun _ h => List.mem_cons_of_mem _ (List.mem_append_right _ h)) (by decide +kernel))
set_option maxRecDepth 20000 in
theorem gL_act_X10_divideAndChoose : GoodIn wsL_act (wsV RL 95 RX10 yX10_divideAndChoose wsX10_divideAndChoose) := goodIn_app (goodIn_of _ (by decide +kernel)) ggL_act_X10_divideAndChoose
theorem dL_act_0 : decode cL_act 0 = .ok (.aload_n 0, 1) := by decide +kernel
theorem dL_act_1 : decode cL_act 1 = .ok (.invokevirtual 61, 3) := by decide +kernel
theorem dL_act_4 : decode cL_act 4 = .ok (.istore_n 2, 1) := by decide +kernel
theorem dL_act_5 : decode cL_act 5 = .ok (.iload_n 1, 1) := by decide +kernel
theorem dL_act_6 : decode cL_act 6 = .ok (.bipush 16, 2) := by decide +kernel
theorem dL_act_8 : decode cL_act 8 = .ok (.idiv, 1) := by decide +kernel
theorem dL_act_9 : decode cL_act 9 = .ok (.iload_n 2, 1) := by decide +kernel
theorem dL_act_10 : decode cL_act 10 = .ok (.irem, 1) := by decide +kernel
theorem dL_act_11 : decode cL_act 11 = .ok (.istore_n 3, 1) := by decide +kernel
theorem dL_act_12 : decode cL_act 12 = .ok (.iload_n 1, 1) := by decide +kernel
theorem dL_act_13 : decode cL_act 13 = .ok (.sipush 128, 3) := by decide +kernel
theorem dL_act_16 : decode cL_act 16 = .ok (.idiv, 1) := by decide +kernel
theorem dL_act_17 : decode cL_act 17 = .ok (.iload_n 2, 1) := by decide +kernel
theorem dL_act_18 : decode cL_act 18 = .ok (.irem, 1) := by decide +kernel
theorem dL_act_19 : decode cL_act 19 = .ok (.istore 4, 2) := by decide +kernel
theorem dL_act_21 : decode cL_act 21 = .ok (.iload_n 1, 1) := by decide +kernel
theorem dL_act_22 : decode cL_act 22 = .ok (.sipush 1024, 3) := by decide +kernel
theorem dL_act_25 : decode cL_act 25 = .ok (.idiv, 1) := by decide +kernel
theorem dL_act_26 : decode cL_act 26 = .ok (.aload_n 0, 1) := by decide +kernel
theorem dL_act_27 : decode cL_act 27 = .ok (.invokevirtual 64, 3) := by decide +kernel
theorem dL_act_30 : decode cL_act 30 = .ok (.irem, 1) := by decide +kernel
theorem dL_act_31 : decode cL_act 31 = .ok (.istore 5, 2) := by decide +kernel
theorem dL_act_33 : decode cL_act 33 = .ok (.iload 5, 2) := by decide +kernel
theorem dL_act_35 : decode cL_act 35 = .ok (.iload_n 1, 1) := by decide +kernel
theorem dL_act_36 : decode cL_act 36 = .ok (.ldc 67, 2) := by decide +kernel
theorem dL_act_38 : decode cL_act 38 = .ok (.idiv, 1) := by decide +kernel
theorem dL_act_39 : decode cL_act 39 = .ok (.aload_n 0, 1) := by decide +kernel
theorem dL_act_40 : decode cL_act 40 = .ok (.invokevirtual 64, 3) := by decide +kernel
theorem dL_act_43 : decode cL_act 43 = .ok (.iload 5, 2) := by decide +kernel
theorem dL_act_45 : decode cL_act 45 = .ok (.isub, 1) := by decide +kernel
theorem dL_act_46 : decode cL_act 46 = .ok (.irem, 1) := by decide +kernel
theorem dL_act_47 : decode cL_act 47 = .ok (.iadd, 1) := by decide +kernel
theorem dL_act_48 : decode cL_act 48 = .ok (.istore 6, 2) := by decide +kernel
theorem dL_act_50 : decode cL_act 50 = .ok (.iload_n 1, 1) := by decide +kernel
theorem dL_act_51 : decode cL_act 51 = .ok (.bipush 12, 2) := by decide +kernel
theorem dL_act_53 : decode cL_act 53 = .ok (.irem, 1) := by decide +kernel
theorem dL_act_54 : decode cL_act 54 = .ok (.tableswitch 148 0 9 #[54, 54, 54, 54, 67, 79, 96, 114, 123, 140], 54) := by decide +kernel
theorem dL_act_108 : decode cL_act 108 = .ok (.aload_n 0, 1) := by decide +kernel
theorem dL_act_109 : decode cL_act 109 = .ok (.iload_n 3, 1) := by decide +kernel
theorem dL_act_110 : decode cL_act 110 = .ok (.iload 5, 2) := by decide +kernel
theorem dL_act_112 : decode cL_act 112 = .ok (.iload 6, 2) := by decide +kernel
theorem dL_act_114 : decode cL_act 114 = .ok (.invokevirtual 68, 3) := by decide +kernel
theorem dL_act_117 : decode cL_act 117 = .ok (.pop, 1) := by decide +kernel
theorem dL_act_118 : decode cL_act 118 = .ok (.goto 107, 3) := by decide +kernel
theorem dL_act_121 : decode cL_act 121 = .ok (.aload_n 0, 1) := by decide +kernel
theorem dL_act_122 : decode cL_act 122 = .ok (.iload 5, 2) := by decide +kernel
theorem dL_act_124 : decode cL_act 124 = .ok (.iload 6, 2) := by decide +kernel
theorem dL_act_126 : decode cL_act 126 = .ok (.invokevirtual 72, 3) := by decide +kernel
theorem dL_act_129 : decode cL_act 129 = .ok (.pop, 1) := by decide +kernel
theorem dL_act_130 : decode cL_act 130 = .ok (.goto 95, 3) := by decide +kernel
theorem dL_act_133 : decode cL_act 133 = .ok (.iload_n 3, 1) := by decide +kernel
theorem dL_act_134 : decode cL_act 134 = .ok (.iload 4, 2) := by decide +kernel
theorem dL_act_136 : decode cL_act 136 = .ok (.if_icmp .eq 89, 3) := by decide +kernel
theorem dL_act_139 : decode cL_act 139 = .ok (.aload_n 0, 1) := by decide +kernel
theorem dL_act_140 : decode cL_act 140 = .ok (.iload_n 3, 1) := by decide +kernel
theorem dL_act_141 : decode cL_act 141 = .ok (.iload 4, 2) := by decide +kernel
theorem dL_act_143 : decode cL_act 143 = .ok (.invokevirtual 76, 3) := by decide +kernel
theorem dL_act_146 : decode cL_act 146 = .ok (.pop, 1) := by decide +kernel
theorem dL_act_147 : decode cL_act 147 = .ok (.goto 78, 3) := by decide +kernel
theorem dL_act_150 : decode cL_act 150 = .ok (.aload_n 0, 1) := by decide +kernel
theorem dL_act_151 : decode cL_act 151 = .ok (.iload_n 3, 1) := by decide +kernel
theorem dL_act_152 : decode cL_act 152 = .ok (.iload 5, 2) := by decide +kernel
theorem dL_act_154 : decode cL_act 154 = .ok (.iload_n 1, 1) := by decide +kernel
theorem dL_act_155 : decode cL_act 155 = .ok (.ldc 67, 2) := by decide +kernel
theorem dL_act_157 : decode cL_act 157 = .ok (.idiv, 1) := by decide +kernel
theorem dL_act_158 : decode cL_act 158 = .ok (.bipush 10, 2) := by decide +kernel
theorem dL_act_160 : decode cL_act 160 = .ok (.irem, 1) := by decide +kernel
theorem dL_act_161 : decode cL_act 161 = .ok (.invokevirtual 79, 3) := by decide +kernel
theorem dL_act_164 : decode cL_act 164 = .ok (.pop, 1) := by decide +kernel
theorem dL_act_165 : decode cL_act 165 = .ok (.goto 60, 3) := by decide +kernel
theorem dL_act_168 : decode cL_act 168 = .ok (.aload_n 0, 1) := by decide +kernel
theorem dL_act_169 : decode cL_act 169 = .ok (.iload_n 3, 1) := by decide +kernel
theorem dL_act_170 : decode cL_act 170 = .ok (.invokevirtual 82, 3) := by decide +kernel
theorem dL_act_173 : decode cL_act 173 = .ok (.pop, 1) := by decide +kernel
theorem dL_act_174 : decode cL_act 174 = .ok (.goto 51, 3) := by decide +kernel
theorem dL_act_177 : decode cL_act 177 = .ok (.aload_n 0, 1) := by decide +kernel
theorem dL_act_178 : decode cL_act 178 = .ok (.iload_n 3, 1) := by decide +kernel
theorem dL_act_179 : decode cL_act 179 = .ok (.invokevirtual 85, 3) := by decide +kernel
theorem dL_act_182 : decode cL_act 182 = .ok (.ifCond .le 43, 3) := by decide +kernel
theorem dL_act_185 : decode cL_act 185 = .ok (.aload_n 0, 1) := by decide +kernel
theorem dL_act_186 : decode cL_act 186 = .ok (.iload_n 3, 1) := by decide +kernel
theorem dL_act_187 : decode cL_act 187 = .ok (.invokevirtual 88, 3) := by decide +kernel
theorem dL_act_190 : decode cL_act 190 = .ok (.pop, 1) := by decide +kernel
theorem dL_act_191 : decode cL_act 191 = .ok (.goto 34, 3) := by decide +kernel
theorem dL_act_194 : decode cL_act 194 = .ok (.aload_n 0, 1) := by decide +kernel
theorem dL_act_195 : decode cL_act 195 = .ok (.invokevirtual 91, 3) := by decide +kernel
theorem dL_act_198 : decode cL_act 198 = .ok (.pop, 1) := by decide +kernel
theorem dL_act_199 : decode cL_act 199 = .ok (.goto 26, 3) := by decide +kernel
theorem dL_act_202 : decode cL_act 202 = .ok (.iload_n 3, 1) := by decide +kernel
theorem dL_act_203 : decode cL_act 203 = .ok (.iload 4, 2) := by decide +kernel
theorem dL_act_205 : decode cL_act 205 = .ok (.if_icmp .eq 20, 3) := by decide +kernel
theorem dL_act_208 : decode cL_act 208 = .ok (.iload_n 1, 1) := by decide +kernel
theorem dL_act_209 : decode cL_act 209 = .ok (.ldc 94, 2) := by decide +kernel
theorem dL_act_211 : decode cL_act 211 = .ok (.idiv, 1) := by decide +kernel
theorem dL_act_212 : decode cL_act 212 = .ok (.iconst 3, 1) := by decide +kernel
theorem dL_act_213 : decode cL_act 213 = .ok (.irem, 1) := by decide +kernel
theorem dL_act_214 : decode cL_act 214 = .ok (.ifCond .ne 11, 3) := by decide +kernel
theorem dL_act_217 : decode cL_act 217 = .ok (.aload_n 0, 1) := by decide +kernel
theorem dL_act_218 : decode cL_act 218 = .ok (.iload_n 3, 1) := by decide +kernel
theorem dL_act_219 : decode cL_act 219 = .ok (.iload 4, 2) := by decide +kernel
theorem dL_act_221 : decode cL_act 221 = .ok (.invokevirtual 95, 3) := by decide +kernel
theorem dL_act_224 : decode cL_act 224 = .ok (.pop, 1) := by decide +kernel
theorem dL_act_225 : decode cL_act 225 = .ok (.return_, 1) := by decide +kernel
set_option maxRecDepth 20000 in
theorem ggL_isMildAll_X10_siblingCount : GoodIn wsL_isMildAll wsX10_siblingCount := goodIn_r _ [5, 6, 7, 77, 78, 79, 80, 81, 82, 83, 84, 85, 86, 87, 88, 89, 90, 91, 92] (by decide +kernel) (by decide +kernel)
set_option maxRecDepth 20000 in
theorem gL_isMildAll_X10_siblingCount : GoodIn wsL_isMildAll (wsV RL 61 RX10 yX10_siblingCount wsX10_siblingCount) := goodIn_app (goodIn_of _ (by decide +kernel)) ggL_isMildAll_X10_siblingCount
set_option maxRecDepth 20000 in
theorem ggL_isMildAll_X10_envies : GoodIn wsL_isMildAll wsX10_envies := goodIn_ca (goodIn_r _ [11, 12, 13, 14, 15, 4, 16, 17, 18, 6, 19, 20, 21, 22, 23, 24, 25, 26, 27, 28, 29, 30, 31, 32, 33, 34, 35, 36, 37, 77, 78, 79, 80, 81, 82, 83, 84, 85, 86, 87, 88, 89, 90, 91, 92, 93, 94, 95, 96] (by decide +kernel) (by decide +kernel)) (goodIn_sub (fun _ h => List.mem_cons_of_mem _ (List.mem_append_left _ (List.mem_append_right _ h))) (by decide +kernel))
set_option maxRecDepth 20000 in
theorem gL_isMildAll_X10_envies : GoodIn wsL_isMildAll (wsV RL 98 RX10 yX10_envies wsX10_envies) := goodIn_app (goodIn_of _ (by decide +kernel)) ggL_isMildAll_X10_envies
set_option maxRecDepth 20000 in
theorem ggL_isMildAll_X10_isMild : GoodIn wsL_isMildAll wsX10_isMild := goodIn_ca (goodIn_ca (goodIn_r _ [41, 42, 43, 12, 13, 14, 15, 4, 16, 17, 18, 6, 19, 20, 21, 22, 23, 24, 25, 26, 27, 28, 29, 30, 31, 32, 33, 34, 35, 36, 37, 44, 45, 46, 47, 48, 49, 50, 51, 52, 53, 54, 55, 56, 57, 58, 59, 60, 61, 62, 63, 64, 65, 66, 77, 78, 79, 80, 81, 82, 83, 84, 85, 86, 87, 88, 89, 90, 91, 92, 93, 94, 95, 96] (by decide +kernel) (by decide +kernel)) (goodIn_sub (fun _ h => List.mem_cons_of_mem _ (List.mem_append_right _ h)) (by decide +kernel))) (goodIn_sub (fun _ h => List.mem_cons_of_mem _ (List.mem_append_left _ (List.mem_append_right _ h))) (by decide +kernel))
set_option maxRecDepth 20000 in
theorem gL_isMildAll_X10_isMild : GoodIn wsL_isMildAll (wsV RL 102 RX10 yX10_isMild wsX10_isMild) := goodIn_app (goodIn_of _ (by decide +kernel)) ggL_isMildAll_X10_isMild
set_option maxRecDepth 20000 in
theorem ggL_isMildAll_X10_strongEnvyCount : GoodIn wsL_isMildAll wsX10_strongEnvyCount := goodIn_r _ [70, 12, 71, 72, 73, 28, 74, 30, 75, 76, 45, 46, 47, 31, 32, 33, 34, 22, 35, 36, 37, 48, 49, 50, 51, 52, 53, 54, 55, 56, 57, 58, 59, 60, 61, 62, 63, 64, 65, 66, 77, 78, 79, 80, 81, 82, 83, 84, 85, 86, 93, 94, 95, 96, 87, 88, 89, 90, 91, 92] (by decide +kernel) (by decide +kernel)
set_option maxRecDepth 20000 in
theorem gL_isMildAll_X10_strongEnvyCount : GoodIn wsL_isMildAll (wsV RL 105 RX10 yX10_strongEnvyCount wsX10_strongEnvyCount) := goodIn_app (goodIn_of _ (by decide +kernel)) ggL_isMildAll_X10_strongEnvyCount
theorem dL_isMildAll_0 : decode cL_isMildAll 0 = .ok (.iconst 0, 1) := by decide +kernel
theorem dL_isMildAll_1 : decode cL_isMildAll 1 = .ok (.istore_n 1, 1) := by decide +kernel
theorem dL_isMildAll_2 : decode cL_isMildAll 2 = .ok (.iload_n 1, 1) := by decide +kernel
theorem dL_isMildAll_3 : decode cL_isMildAll 3 = .ok (.aload_n 0, 1) := by decide +kernel
theorem dL_isMildAll_4 : decode cL_isMildAll 4 = .ok (.invokevirtual 61, 3) := by decide +kernel
theorem dL_isMildAll_7 : decode cL_isMildAll 7 = .ok (.if_icmp .ge 45, 3) := by decide +kernel
theorem dL_isMildAll_10 : decode cL_isMildAll 10 = .ok (.iconst 0, 1) := by decide +kernel
theorem dL_isMildAll_11 : decode cL_isMildAll 11 = .ok (.istore_n 2, 1) := by decide +kernel
theorem dL_isMildAll_12 : decode cL_isMildAll 12 = .ok (.iload_n 2, 1) := by decide +kernel
theorem dL_isMildAll_13 : decode cL_isMildAll 13 = .ok (.aload_n 0, 1) := by decide +kernel
theorem dL_isMildAll_14 : decode cL_isMildAll 14 = .ok (.invokevirtual 61, 3) := by decide +kernel
theorem dL_isMildAll_17 : decode cL_isMildAll 17 = .ok (.if_icmp .ge 29, 3) := by decide +kernel
theorem dL_isMildAll_20 : decode cL_isMildAll 20 = .ok (.aload_n 0, 1) := by decide +kernel
theorem dL_isMildAll_21 : decode cL_isMildAll 21 = .ok (.iload_n 1, 1) := by decide +kernel
theorem dL_isMildAll_22 : decode cL_isMildAll 22 = .ok (.iload_n 2, 1) := by decide +kernel
theorem dL_isMildAll_23 : decode cL_isMildAll 23 = .ok (.invokevirtual 98, 3) := by decide +kernel
theorem dL_isMildAll_26 : decode cL_isMildAll 26 = .ok (.ifCond .eq 14, 3) := by decide +kernel
theorem dL_isMildAll_29 : decode cL_isMildAll 29 = .ok (.aload_n 0, 1) := by decide +kernel
theorem dL_isMildAll_30 : decode cL_isMildAll 30 = .ok (.iload_n 1, 1) := by decide +kernel
theorem dL_isMildAll_31 : decode cL_isMildAll 31 = .ok (.iload_n 2, 1) := by decide +kernel
theorem dL_isMildAll_32 : decode cL_isMildAll 32 = .ok (.invokevirtual 102, 3) := by decide +kernel
theorem dL_isMildAll_35 : decode cL_isMildAll 35 = .ok (.ifCond .ne 5, 3) := by decide +kernel
theorem dL_isMildAll_38 : decode cL_isMildAll 38 = .ok (.iconst 0, 1) := by decide +kernel
theorem dL_isMildAll_39 : decode cL_isMildAll 39 = .ok (.ireturn, 1) := by decide +kernel
theorem dL_isMildAll_40 : decode cL_isMildAll 40 = .ok (.iinc 2 1, 3) := by decide +kernel
theorem dL_isMildAll_43 : decode cL_isMildAll 43 = .ok (.goto (-31), 3) := by decide +kernel
theorem dL_isMildAll_46 : decode cL_isMildAll 46 = .ok (.iinc 1 1, 3) := by decide +kernel
theorem dL_isMildAll_49 : decode cL_isMildAll 49 = .ok (.goto (-47), 3) := by decide +kernel
theorem dL_isMildAll_52 : decode cL_isMildAll 52 = .ok (.aload_n 0, 1) := by decide +kernel
theorem dL_isMildAll_53 : decode cL_isMildAll 53 = .ok (.invokevirtual 105, 3) := by decide +kernel
theorem dL_isMildAll_56 : decode cL_isMildAll 56 = .ok (.ifCond .ne 7, 3) := by decide +kernel
theorem dL_isMildAll_59 : decode cL_isMildAll 59 = .ok (.iconst 1, 1) := by decide +kernel
theorem dL_isMildAll_60 : decode cL_isMildAll 60 = .ok (.goto 4, 3) := by decide +kernel
theorem dL_isMildAll_63 : decode cL_isMildAll 63 = .ok (.iconst 0, 1) := by decide +kernel
theorem dL_isMildAll_64 : decode cL_isMildAll 64 = .ok (.ireturn, 1) := by decide +kernel
theorem dL_law_0 : decode cL_law 0 = .ok (.new 19, 3) := by decide +kernel
theorem dL_law_3 : decode cL_law 3 = .ok (.dup, 1) := by decide +kernel
theorem dL_law_4 : decode cL_law 4 = .ok (.invokespecial 108, 3) := by decide +kernel
theorem dL_law_7 : decode cL_law 7 = .ok (.astore_n 1, 1) := by decide +kernel
theorem dL_law_8 : decode cL_law 8 = .ok (.iconst 1, 1) := by decide +kernel
theorem dL_law_9 : decode cL_law 9 = .ok (.aload_n 0, 1) := by decide +kernel
theorem dL_law_10 : decode cL_law 10 = .ok (.iconst 0, 1) := by decide +kernel
theorem dL_law_11 : decode cL_law 11 = .ok (.bipush 16, 2) := by decide +kernel
theorem dL_law_13 : decode cL_law 13 = .ok (.invokestatic 53, 3) := by decide +kernel
theorem dL_law_16 : decode cL_law 16 = .ok (.iadd, 1) := by decide +kernel
theorem dL_law_17 : decode cL_law 17 = .ok (.istore_n 2, 1) := by decide +kernel
theorem dL_law_18 : decode cL_law 18 = .ok (.iconst 1, 1) := by decide +kernel
theorem dL_law_19 : decode cL_law 19 = .ok (.aload_n 0, 1) := by decide +kernel
theorem dL_law_20 : decode cL_law 20 = .ok (.iconst 1, 1) := by decide +kernel
theorem dL_law_21 : decode cL_law 21 = .ok (.iconst 5, 1) := by decide +kernel
theorem dL_law_22 : decode cL_law 22 = .ok (.invokestatic 53, 3) := by decide +kernel
theorem dL_law_25 : decode cL_law 25 = .ok (.iadd, 1) := by decide +kernel
theorem dL_law_26 : decode cL_law 26 = .ok (.istore_n 3, 1) := by decide +kernel
theorem dL_law_27 : decode cL_law 27 = .ok (.aload_n 1, 1) := by decide +kernel
theorem dL_law_28 : decode cL_law 28 = .ok (.aload_n 0, 1) := by decide +kernel
theorem dL_law_29 : decode cL_law 29 = .ok (.iload_n 2, 1) := by decide +kernel
theorem dL_law_30 : decode cL_law 30 = .ok (.iload_n 3, 1) := by decide +kernel
theorem dL_law_31 : decode cL_law 31 = .ok (.invokestatic 109, 3) := by decide +kernel
theorem dL_law_34 : decode cL_law 34 = .ok (.invokestatic 113, 3) := by decide +kernel
theorem dL_law_37 : decode cL_law 37 = .ok (.ifCond .eq 11, 3) := by decide +kernel
theorem dL_law_40 : decode cL_law 40 = .ok (.aload_n 1, 1) := by decide +kernel
theorem dL_law_41 : decode cL_law 41 = .ok (.invokevirtual 117, 3) := by decide +kernel
theorem dL_law_44 : decode cL_law 44 = .ok (.iload_n 3, 1) := by decide +kernel
theorem dL_law_45 : decode cL_law 45 = .ok (.if_icmp .eq 5, 3) := by decide +kernel
theorem dL_law_48 : decode cL_law 48 = .ok (.iconst 0, 1) := by decide +kernel
theorem dL_law_49 : decode cL_law 49 = .ok (.ireturn, 1) := by decide +kernel
theorem dL_law_50 : decode cL_law 50 = .ok (.new 120, 3) := by decide +kernel
theorem dL_law_53 : decode cL_law 53 = .ok (.dup, 1) := by decide +kernel
theorem dL_law_54 : decode cL_law 54 = .ok (.aload_n 1, 1) := by decide +kernel
theorem dL_law_55 : decode cL_law 55 = .ok (.invokespecial 122, 3) := by decide +kernel
theorem dL_law_58 : decode cL_law 58 = .ok (.astore 4, 2) := by decide +kernel
theorem dL_law_60 : decode cL_law 60 = .ok (.iconst 0, 1) := by decide +kernel
theorem dL_law_61 : decode cL_law 61 = .ok (.istore 5, 2) := by decide +kernel
theorem dL_law_63 : decode cL_law 63 = .ok (.iload 5, 2) := by decide +kernel
theorem dL_law_65 : decode cL_law 65 = .ok (.bipush 20, 2) := by decide +kernel
theorem dL_law_67 : decode cL_law 67 = .ok (.if_icmp .ge 559, 3) := by decide +kernel
theorem dL_law_70 : decode cL_law 70 = .ok (.aload_n 0, 1) := by decide +kernel
theorem dL_law_71 : decode cL_law 71 = .ok (.bipush 14, 2) := by decide +kernel
theorem dL_law_73 : decode cL_law 73 = .ok (.iload 5, 2) := by decide +kernel
theorem dL_law_75 : decode cL_law 75 = .ok (.iadd, 1) := by decide +kernel
theorem dL_law_76 : decode cL_law 76 = .ok (.ldc 52, 2) := by decide +kernel
theorem dL_law_78 : decode cL_law 78 = .ok (.invokestatic 53, 3) := by decide +kernel
theorem dL_law_81 : decode cL_law 81 = .ok (.istore 6, 2) := by decide +kernel
theorem dL_law_83 : decode cL_law 83 = .ok (.aload_n 1, 1) := by decide +kernel
theorem dL_law_84 : decode cL_law 84 = .ok (.iload 6, 2) := by decide +kernel
theorem dL_law_86 : decode cL_law 86 = .ok (.invokestatic 125, 3) := by decide +kernel
theorem dL_law_89 : decode cL_law 89 = .ok (.aload 4, 2) := by decide +kernel
theorem dL_law_91 : decode cL_law 91 = .ok (.invokevirtual 129, 3) := by decide +kernel
theorem dL_law_94 : decode cL_law 94 = .ok (.aload 4, 2) := by decide +kernel
theorem dL_law_96 : decode cL_law 96 = .ok (.invokevirtual 132, 3) := by decide +kernel
theorem dL_law_99 : decode cL_law 99 = .ok (.ifCond .ne 5, 3) := by decide +kernel
theorem dL_law_102 : decode cL_law 102 = .ok (.iconst 0, 1) := by decide +kernel
theorem dL_law_103 : decode cL_law 103 = .ok (.ireturn, 1) := by decide +kernel
theorem dL_law_104 : decode cL_law 104 = .ok (.iload 6, 2) := by decide +kernel
theorem dL_law_106 : decode cL_law 106 = .ok (.bipush 16, 2) := by decide +kernel
theorem dL_law_108 : decode cL_law 108 = .ok (.idiv, 1) := by decide +kernel
theorem dL_law_109 : decode cL_law 109 = .ok (.iload_n 3, 1) := by decide +kernel
theorem dL_law_110 : decode cL_law 110 = .ok (.irem, 1) := by decide +kernel
theorem dL_law_111 : decode cL_law 111 = .ok (.istore 7, 2) := by decide +kernel
theorem dL_law_113 : decode cL_law 113 = .ok (.iload 6, 2) := by decide +kernel
theorem dL_law_115 : decode cL_law 115 = .ok (.sipush 128, 3) := by decide +kernel
theorem dL_law_118 : decode cL_law 118 = .ok (.idiv, 1) := by decide +kernel
theorem dL_law_119 : decode cL_law 119 = .ok (.iload_n 3, 1) := by decide +kernel
theorem dL_law_120 : decode cL_law 120 = .ok (.irem, 1) := by decide +kernel
theorem dL_law_121 : decode cL_law 121 = .ok (.istore 8, 2) := by decide +kernel
theorem dL_law_123 : decode cL_law 123 = .ok (.iload 6, 2) := by decide +kernel
theorem dL_law_125 : decode cL_law 125 = .ok (.iconst 5, 1) := by decide +kernel
theorem dL_law_126 : decode cL_law 126 = .ok (.irem, 1) := by decide +kernel
theorem dL_law_127 : decode cL_law 127 = .ok (.ifCond .ne 58, 3) := by decide +kernel
theorem dL_law_130 : decode cL_law 130 = .ok (.iload 7, 2) := by decide +kernel
theorem dL_law_132 : decode cL_law 132 = .ok (.iload 8, 2) := by decide +kernel
theorem dL_law_134 : decode cL_law 134 = .ok (.if_icmp .eq 51, 3) := by decide +kernel
theorem dL_law_137 : decode cL_law 137 = .ok (.aload 4, 2) := by decide +kernel
theorem dL_law_139 : decode cL_law 139 = .ok (.iload 7, 2) := by decide +kernel
theorem dL_law_141 : decode cL_law 141 = .ok (.iload 8, 2) := by decide +kernel
theorem dL_law_143 : decode cL_law 143 = .ok (.invokevirtual 136, 3) := by decide +kernel
theorem dL_law_146 : decode cL_law 146 = .ok (.istore 9, 2) := by decide +kernel
theorem dL_law_148 : decode cL_law 148 = .ok (.aload_n 1, 1) := by decide +kernel
theorem dL_law_149 : decode cL_law 149 = .ok (.iload 7, 2) := by decide +kernel
theorem dL_law_151 : decode cL_law 151 = .ok (.iload 8, 2) := by decide +kernel
theorem dL_law_153 : decode cL_law 153 = .ok (.invokevirtual 95, 3) := by decide +kernel
theorem dL_law_156 : decode cL_law 156 = .ok (.iload 9, 2) := by decide +kernel
theorem dL_law_158 : decode cL_law 158 = .ok (.if_icmp .ne 22, 3) := by decide +kernel
theorem dL_law_161 : decode cL_law 161 = .ok (.aload 4, 2) := by decide +kernel
theorem dL_law_163 : decode cL_law 163 = .ok (.invokevirtual 132, 3) := by decide +kernel
theorem dL_law_166 : decode cL_law 166 = .ok (.ifCond .eq 14, 3) := by decide +kernel
theorem dL_law_169 : decode cL_law 169 = .ok (.aload_n 1, 1) := by decide +kernel
theorem dL_law_170 : decode cL_law 170 = .ok (.iload 8, 2) := by decide +kernel
theorem dL_law_172 : decode cL_law 172 = .ok (.iload 7, 2) := by decide +kernel
theorem dL_law_174 : decode cL_law 174 = .ok (.invokevirtual 98, 3) := by decide +kernel
theorem dL_law_177 : decode cL_law 177 = .ok (.ifCond .eq 5, 3) := by decide +kernel
theorem dL_law_180 : decode cL_law 180 = .ok (.iconst 0, 1) := by decide +kernel
theorem dL_law_181 : decode cL_law 181 = .ok (.ireturn, 1) := by decide +kernel
theorem dL_law_182 : decode cL_law 182 = .ok (.goto 438, 3) := by decide +kernel
theorem dL_law_185 : decode cL_law 185 = .ok (.iload 6, 2) := by decide +kernel
theorem dL_law_187 : decode cL_law 187 = .ok (.iconst 5, 1) := by decide +kernel
theorem dL_law_188 : decode cL_law 188 = .ok (.irem, 1) := by decide +kernel
theorem dL_law_189 : decode cL_law 189 = .ok (.iconst 1, 1) := by decide +kernel
theorem dL_law_190 : decode cL_law 190 = .ok (.if_icmp .ne 30, 3) := by decide +kernel
theorem dL_law_193 : decode cL_law 193 = .ok (.aload 4, 2) := by decide +kernel
theorem dL_law_195 : decode cL_law 195 = .ok (.invokevirtual 139, 3) := by decide +kernel
theorem dL_law_198 : decode cL_law 198 = .ok (.aload_n 1, 1) := by decide +kernel
theorem dL_law_199 : decode cL_law 199 = .ok (.invokevirtual 91, 3) := by decide +kernel
theorem dL_law_202 : decode cL_law 202 = .ok (.aload 4, 2) := by decide +kernel
theorem dL_law_204 : decode cL_law 204 = .ok (.invokevirtual 142, 3) := by decide +kernel
theorem dL_law_207 : decode cL_law 207 = .ok (.if_icmp .ne 11, 3) := by decide +kernel
theorem dL_law_210 : decode cL_law 210 = .ok (.aload 4, 2) := by decide +kernel
theorem dL_law_212 : decode cL_law 212 = .ok (.invokevirtual 132, 3) := by decide +kernel
theorem dL_law_215 : decode cL_law 215 = .ok (.ifCond .ne 405, 3) := by decide +kernel
theorem dL_law_218 : decode cL_law 218 = .ok (.iconst 0, 1) := by decide +kernel
theorem dL_law_219 : decode cL_law 219 = .ok (.ireturn, 1) := by decide +kernel
theorem dL_law_220 : decode cL_law 220 = .ok (.iload 6, 2) := by decide +kernel
theorem dL_law_222 : decode cL_law 222 = .ok (.iconst 5, 1) := by decide +kernel
theorem dL_law_223 : decode cL_law 223 = .ok (.irem, 1) := by decide +kernel
theorem dL_law_224 : decode cL_law 224 = .ok (.iconst 2, 1) := by decide +kernel
theorem dL_law_225 : decode cL_law 225 = .ok (.if_icmp .ne 70, 3) := by decide +kernel
theorem dL_law_228 : decode cL_law 228 = .ok (.aload_n 1, 1) := by decide +kernel
theorem dL_law_229 : decode cL_law 229 = .ok (.invokevirtual 145, 3) := by decide +kernel
theorem dL_law_232 : decode cL_law 232 = .ok (.iload_n 2, 1) := by decide +kernel
theorem dL_law_233 : decode cL_law 233 = .ok (.if_icmp .ne 7, 3) := by decide +kernel
theorem dL_law_236 : decode cL_law 236 = .ok (.iconst 1, 1) := by decide +kernel
theorem dL_law_237 : decode cL_law 237 = .ok (.goto 4, 3) := by decide +kernel
theorem dL_law_240 : decode cL_law 240 = .ok (.iconst 0, 1) := by decide +kernel
theorem dL_law_241 : decode cL_law 241 = .ok (.istore 9, 2) := by decide +kernel
theorem dL_law_243 : decode cL_law 243 = .ok (.aload 4, 2) := by decide +kernel
theorem dL_law_245 : decode cL_law 245 = .ok (.iload 7, 2) := by decide +kernel
theorem dL_law_247 : decode cL_law 247 = .ok (.invokevirtual 148, 3) := by decide +kernel
theorem dL_law_250 : decode cL_law 250 = .ok (.istore 10, 2) := by decide +kernel
theorem dL_law_252 : decode cL_law 252 = .ok (.aload_n 1, 1) := by decide +kernel
theorem dL_law_253 : decode cL_law 253 = .ok (.iload 7, 2) := by decide +kernel
theorem dL_law_255 : decode cL_law 255 = .ok (.invokevirtual 82, 3) := by decide +kernel
theorem dL_law_258 : decode cL_law 258 = .ok (.iload 10, 2) := by decide +kernel
theorem dL_law_260 : decode cL_law 260 = .ok (.if_icmp .ne 30, 3) := by decide +kernel
theorem dL_law_263 : decode cL_law 263 = .ok (.aload 4, 2) := by decide +kernel
theorem dL_law_265 : decode cL_law 265 = .ok (.invokevirtual 132, 3) := by decide +kernel
theorem dL_law_268 : decode cL_law 268 = .ok (.ifCond .eq 22, 3) := by decide +kernel
theorem dL_law_271 : decode cL_law 271 = .ok (.aload_n 1, 1) := by decide +kernel
theorem dL_law_272 : decode cL_law 272 = .ok (.invokevirtual 145, 3) := by decide +kernel
theorem dL_law_275 : decode cL_law 275 = .ok (.ifCond .ne 15, 3) := by decide +kernel
theorem dL_law_278 : decode cL_law 278 = .ok (.iload 9, 2) := by decide +kernel
theorem dL_law_280 : decode cL_law 280 = .ok (.ifCond .eq 12, 3) := by decide +kernel
theorem dL_law_283 : decode cL_law 283 = .ok (.aload_n 1, 1) := by decide +kernel
theorem dL_law_284 : decode cL_law 284 = .ok (.invokestatic 151, 3) := by decide +kernel
theorem dL_law_287 : decode cL_law 287 = .ok (.ifCond .ne 5, 3) := by decide +kernel
theorem dL_law_290 : decode cL_law 290 = .ok (.iconst 0, 1) := by decide +kernel
theorem dL_law_291 : decode cL_law 291 = .ok (.ireturn, 1) := by decide +kernel
theorem dL_law_292 : decode cL_law 292 = .ok (.goto 328, 3) := by decide +kernel
theorem dL_law_295 : decode cL_law 295 = .ok (.iload 6, 2) := by decide +kernel
theorem dL_law_297 : decode cL_law 297 = .ok (.iconst 5, 1) := by decide +kernel
theorem dL_law_298 : decode cL_law 298 = .ok (.irem, 1) := by decide +kernel
theorem dL_law_299 : decode cL_law 299 = .ok (.iconst 3, 1) := by decide +kernel
theorem dL_law_300 : decode cL_law 300 = .ok (.if_icmp .ne 68, 3) := by decide +kernel
theorem dL_law_303 : decode cL_law 303 = .ok (.aload 4, 2) := by decide +kernel
theorem dL_law_305 : decode cL_law 305 = .ok (.iconst (-1), 1) := by decide +kernel
theorem dL_law_306 : decode cL_law 306 = .ok (.iconst 0, 1) := by decide +kernel
theorem dL_law_307 : decode cL_law 307 = .ok (.iload_n 2, 1) := by decide +kernel
theorem dL_law_308 : decode cL_law 308 = .ok (.invokevirtual 155, 3) := by decide +kernel
theorem dL_law_311 : decode cL_law 311 = .ok (.aload_n 1, 1) := by decide +kernel
theorem dL_law_312 : decode cL_law 312 = .ok (.iconst 0, 1) := by decide +kernel
theorem dL_law_313 : decode cL_law 313 = .ok (.iload_n 2, 1) := by decide +kernel
theorem dL_law_314 : decode cL_law 314 = .ok (.iconst 1, 1) := by decide +kernel
theorem dL_law_315 : decode cL_law 315 = .ok (.isub, 1) := by decide +kernel
theorem dL_law_316 : decode cL_law 316 = .ok (.invokevirtual 72, 3) := by decide +kernel
theorem dL_law_319 : decode cL_law 319 = .ok (.iload_n 2, 1) := by decide +kernel
theorem dL_law_320 : decode cL_law 320 = .ok (.if_icmp .ne 11, 3) := by decide +kernel
theorem dL_law_323 : decode cL_law 323 = .ok (.aload 4, 2) := by decide +kernel
theorem dL_law_325 : decode cL_law 325 = .ok (.invokevirtual 132, 3) := by decide +kernel
theorem dL_law_328 : decode cL_law 328 = .ok (.ifCond .ne 5, 3) := by decide +kernel
theorem dL_law_331 : decode cL_law 331 = .ok (.iconst 0, 1) := by decide +kernel
theorem dL_law_332 : decode cL_law 332 = .ok (.ireturn, 1) := by decide +kernel
theorem dL_law_333 : decode cL_law 333 = .ok (.aload 4, 2) := by decide +kernel
theorem dL_law_335 : decode cL_law 335 = .ok (.iload 8, 2) := by decide +kernel
theorem dL_law_337 : decode cL_law 337 = .ok (.invokevirtual 148, 3) := by decide +kernel
theorem dL_law_340 : decode cL_law 340 = .ok (.pop, 1) := by decide +kernel
theorem dL_law_341 : decode cL_law 341 = .ok (.aload_n 1, 1) := by decide +kernel
theorem dL_law_342 : decode cL_law 342 = .ok (.iload 8, 2) := by decide +kernel
theorem dL_law_344 : decode cL_law 344 = .ok (.invokevirtual 82, 3) := by decide +kernel
theorem dL_law_347 : decode cL_law 347 = .ok (.iload_n 2, 1) := by decide +kernel
theorem dL_law_348 : decode cL_law 348 = .ok (.if_icmp .ne 18, 3) := by decide +kernel
theorem dL_law_351 : decode cL_law 351 = .ok (.aload 4, 2) := by decide +kernel
theorem dL_law_353 : decode cL_law 353 = .ok (.invokevirtual 132, 3) := by decide +kernel
theorem dL_law_356 : decode cL_law 356 = .ok (.ifCond .eq 10, 3) := by decide +kernel
theorem dL_law_359 : decode cL_law 359 = .ok (.aload_n 1, 1) := by decide +kernel
theorem dL_law_360 : decode cL_law 360 = .ok (.invokestatic 151, 3) := by decide +kernel
theorem dL_law_363 : decode cL_law 363 = .ok (.ifCond .ne 257, 3) := by decide +kernel
theorem dL_law_366 : decode cL_law 366 = .ok (.iconst 0, 1) := by decide +kernel
theorem dL_law_367 : decode cL_law 367 = .ok (.ireturn, 1) := by decide +kernel
theorem dL_law_368 : decode cL_law 368 = .ok (.aload_n 1, 1) := by decide +kernel
theorem dL_law_369 : decode cL_law 369 = .ok (.iload 7, 2) := by decide +kernel
theorem dL_law_371 : decode cL_law 371 = .ok (.invokevirtual 85, 3) := by decide +kernel
theorem dL_law_374 : decode cL_law 374 = .ok (.ifCond .le 246, 3) := by decide +kernel
theorem dL_law_377 : decode cL_law 377 = .ok (.aload_n 1, 1) := by decide +kernel
theorem dL_law_378 : decode cL_law 378 = .ok (.iload 7, 2) := by decide +kernel
theorem dL_law_380 : decode cL_law 380 = .ok (.invokevirtual 85, 3) := by decide +kernel
theorem dL_law_383 : decode cL_law 383 = .ok (.istore 9, 2) := by decide +kernel
theorem dL_law_385 : decode cL_law 385 = .ok (.bipush 6, 2) := by decide +kernel
theorem dL_law_387 : decode cL_law 387 = .ok (.newarray .int, 2) := by decide +kernel
theorem dL_law_389 : decode cL_law 389 = .ok (.astore 10, 2) := by decide +kernel
theorem dL_law_391 : decode cL_law 391 = .ok (.bipush 6, 2) := by decide +kernel
theorem dL_law_393 : decode cL_law 393 = .ok (.newarray .int, 2) := by decide +kernel
theorem dL_law_395 : decode cL_law 395 = .ok (.astore 11, 2) := by decide +kernel
theorem dL_law_397 : decode cL_law 397 = .ok (.iconst 0, 1) := by decide +kernel
theorem dL_law_398 : decode cL_law 398 = .ok (.istore 12, 2) := by decide +kernel
theorem dL_law_400 : decode cL_law 400 = .ok (.iload 12, 2) := by decide +kernel
theorem dL_law_402 : decode cL_law 402 = .ok (.iload 9, 2) := by decide +kernel
theorem dL_law_404 : decode cL_law 404 = .ok (.if_icmp .ge 22, 3) := by decide +kernel
theorem dL_law_407 : decode cL_law 407 = .ok (.aload 10, 2) := by decide +kernel
theorem dL_law_409 : decode cL_law 409 = .ok (.iload 12, 2) := by decide +kernel
theorem dL_law_411 : decode cL_law 411 = .ok (.aload_n 1, 1) := by decide +kernel
theorem dL_law_412 : decode cL_law 412 = .ok (.iload 7, 2) := by decide +kernel
theorem dL_law_414 : decode cL_law 414 = .ok (.iload 12, 2) := by decide +kernel
theorem dL_law_416 : decode cL_law 416 = .ok (.invokevirtual 159, 3) := by decide +kernel
theorem dL_law_419 : decode cL_law 419 = .ok (.iastore, 1) := by decide +kernel
theorem dL_law_420 : decode cL_law 420 = .ok (.iinc 12 1, 3) := by decide +kernel
theorem dL_law_423 : decode cL_law 423 = .ok (.goto (-23), 3) := by decide +kernel
theorem dL_law_426 : decode cL_law 426 = .ok (.iconst 0, 1) := by decide +kernel
theorem dL_law_427 : decode cL_law 427 = .ok (.istore 12, 2) := by decide +kernel
theorem dL_law_429 : decode cL_law 429 = .ok (.iload 12, 2) := by decide +kernel
theorem dL_law_431 : decode cL_law 431 = .ok (.iload 9, 2) := by decide +kernel
theorem dL_law_433 : decode cL_law 433 = .ok (.if_icmp .ge 29, 3) := by decide +kernel
theorem dL_law_436 : decode cL_law 436 = .ok (.aload 11, 2) := by decide +kernel
theorem dL_law_438 : decode cL_law 438 = .ok (.iload 12, 2) := by decide +kernel
theorem dL_law_440 : decode cL_law 440 = .ok (.aload 4, 2) := by decide +kernel
theorem dL_law_442 : decode cL_law 442 = .ok (.aload 10, 2) := by decide +kernel
theorem dL_law_444 : decode cL_law 444 = .ok (.iload 12, 2) := by decide +kernel
theorem dL_law_446 : decode cL_law 446 = .ok (.iaload, 1) := by decide +kernel
theorem dL_law_447 : decode cL_law 447 = .ok (.aload 10, 2) := by decide +kernel
theorem dL_law_449 : decode cL_law 449 = .ok (.iload 12, 2) := by decide +kernel
theorem dL_law_451 : decode cL_law 451 = .ok (.iaload, 1) := by decide +kernel
theorem dL_law_452 : decode cL_law 452 = .ok (.invokevirtual 162, 3) := by decide +kernel
theorem dL_law_455 : decode cL_law 455 = .ok (.iastore, 1) := by decide +kernel
theorem dL_law_456 : decode cL_law 456 = .ok (.iinc 12 1, 3) := by decide +kernel
theorem dL_law_459 : decode cL_law 459 = .ok (.goto (-30), 3) := by decide +kernel
theorem dL_law_462 : decode cL_law 462 = .ok (.bipush 24, 2) := by decide +kernel
theorem dL_law_464 : decode cL_law 464 = .ok (.newarray .int, 2) := by decide +kernel
theorem dL_law_466 : decode cL_law 466 = .ok (.astore 12, 2) := by decide +kernel
theorem dL_law_468 : decode cL_law 468 = .ok (.iconst 0, 1) := by decide +kernel
theorem dL_law_469 : decode cL_law 469 = .ok (.istore 13, 2) := by decide +kernel
theorem dL_law_471 : decode cL_law 471 = .ok (.iload 13, 2) := by decide +kernel
theorem dL_law_473 : decode cL_law 473 = .ok (.iload_n 2, 1) := by decide +kernel
theorem dL_law_474 : decode cL_law 474 = .ok (.if_icmp .ge 22, 3) := by decide +kernel
theorem dL_law_477 : decode cL_law 477 = .ok (.aload 12, 2) := by decide +kernel
theorem dL_law_479 : decode cL_law 479 = .ok (.iload 13, 2) := by decide +kernel
theorem dL_law_481 : decode cL_law 481 = .ok (.aload 4, 2) := by decide +kernel
theorem dL_law_483 : decode cL_law 483 = .ok (.getfield 165, 3) := by decide +kernel
theorem dL_law_486 : decode cL_law 486 = .ok (.iload 13, 2) := by decide +kernel
theorem dL_law_488 : decode cL_law 488 = .ok (.iaload, 1) := by decide +kernel
theorem dL_law_489 : decode cL_law 489 = .ok (.iastore, 1) := by decide +kernel
theorem dL_law_490 : decode cL_law 490 = .ok (.iinc 13 1, 3) := by decide +kernel
theorem dL_law_493 : decode cL_law 493 = .ok (.goto (-22), 3) := by decide +kernel
theorem dL_law_496 : decode cL_law 496 = .ok (.iconst 0, 1) := by decide +kernel
theorem dL_law_497 : decode cL_law 497 = .ok (.istore 13, 2) := by decide +kernel
theorem dL_law_499 : decode cL_law 499 = .ok (.iload 13, 2) := by decide +kernel
theorem dL_law_501 : decode cL_law 501 = .ok (.iload_n 2, 1) := by decide +kernel
theorem dL_law_502 : decode cL_law 502 = .ok (.if_icmp .ge 56, 3) := by decide +kernel
theorem dL_law_505 : decode cL_law 505 = .ok (.iconst 0, 1) := by decide +kernel
theorem dL_law_506 : decode cL_law 506 = .ok (.istore 14, 2) := by decide +kernel
theorem dL_law_508 : decode cL_law 508 = .ok (.iload 14, 2) := by decide +kernel
theorem dL_law_510 : decode cL_law 510 = .ok (.iload 9, 2) := by decide +kernel
theorem dL_law_512 : decode cL_law 512 = .ok (.if_icmp .ge 40, 3) := by decide +kernel
theorem dL_law_515 : decode cL_law 515 = .ok (.aload 12, 2) := by decide +kernel
theorem dL_law_517 : decode cL_law 517 = .ok (.iload 13, 2) := by decide +kernel
theorem dL_law_519 : decode cL_law 519 = .ok (.iaload, 1) := by decide +kernel
theorem dL_law_520 : decode cL_law 520 = .ok (.aload 10, 2) := by decide +kernel
theorem dL_law_522 : decode cL_law 522 = .ok (.iload 14, 2) := by decide +kernel
theorem dL_law_524 : decode cL_law 524 = .ok (.iconst 1, 1) := by decide +kernel
theorem dL_law_525 : decode cL_law 525 = .ok (.iadd, 1) := by decide +kernel
theorem dL_law_526 : decode cL_law 526 = .ok (.iload 9, 2) := by decide +kernel
theorem dL_law_528 : decode cL_law 528 = .ok (.irem, 1) := by decide +kernel
theorem dL_law_529 : decode cL_law 529 = .ok (.iaload, 1) := by decide +kernel
theorem dL_law_530 : decode cL_law 530 = .ok (.if_icmp .ne 16, 3) := by decide +kernel
theorem dL_law_533 : decode cL_law 533 = .ok (.aload 4, 2) := by decide +kernel
theorem dL_law_535 : decode cL_law 535 = .ok (.getfield 165, 3) := by decide +kernel
theorem dL_law_538 : decode cL_law 538 = .ok (.iload 13, 2) := by decide +kernel
theorem dL_law_540 : decode cL_law 540 = .ok (.aload 10, 2) := by decide +kernel
theorem dL_law_542 : decode cL_law 542 = .ok (.iload 14, 2) := by decide +kernel
theorem dL_law_544 : decode cL_law 544 = .ok (.iaload, 1) := by decide +kernel
theorem dL_law_545 : decode cL_law 545 = .ok (.iastore, 1) := by decide +kernel
theorem dL_law_546 : decode cL_law 546 = .ok (.iinc 14 1, 3) := by decide +kernel
theorem dL_law_549 : decode cL_law 549 = .ok (.goto (-41), 3) := by decide +kernel
theorem dL_law_552 : decode cL_law 552 = .ok (.iinc 13 1, 3) := by decide +kernel
theorem dL_law_555 : decode cL_law 555 = .ok (.goto (-56), 3) := by decide +kernel
theorem dL_law_558 : decode cL_law 558 = .ok (.aload_n 1, 1) := by decide +kernel
theorem dL_law_559 : decode cL_law 559 = .ok (.iload 7, 2) := by decide +kernel
theorem dL_law_561 : decode cL_law 561 = .ok (.invokevirtual 88, 3) := by decide +kernel
theorem dL_law_564 : decode cL_law 564 = .ok (.iload 9, 2) := by decide +kernel
theorem dL_law_566 : decode cL_law 566 = .ok (.if_icmp .ne 11, 3) := by decide +kernel
theorem dL_law_569 : decode cL_law 569 = .ok (.aload 4, 2) := by decide +kernel
theorem dL_law_571 : decode cL_law 571 = .ok (.invokevirtual 132, 3) := by decide +kernel
theorem dL_law_574 : decode cL_law 574 = .ok (.ifCond .ne 5, 3) := by decide +kernel
theorem dL_law_577 : decode cL_law 577 = .ok (.iconst 0, 1) := by decide +kernel
theorem dL_law_578 : decode cL_law 578 = .ok (.ireturn, 1) := by decide +kernel
theorem dL_law_579 : decode cL_law 579 = .ok (.iconst 0, 1) := by decide +kernel
theorem dL_law_580 : decode cL_law 580 = .ok (.istore 13, 2) := by decide +kernel
theorem dL_law_582 : decode cL_law 582 = .ok (.iload 13, 2) := by decide +kernel
theorem dL_law_584 : decode cL_law 584 = .ok (.iload 9, 2) := by decide +kernel
theorem dL_law_586 : decode cL_law 586 = .ok (.if_icmp .ge 34, 3) := by decide +kernel
theorem dL_law_589 : decode cL_law 589 = .ok (.aload 4, 2) := by decide +kernel
theorem dL_law_591 : decode cL_law 591 = .ok (.aload 10, 2) := by decide +kernel
theorem dL_law_593 : decode cL_law 593 = .ok (.iload 13, 2) := by decide +kernel
theorem dL_law_595 : decode cL_law 595 = .ok (.iaload, 1) := by decide +kernel
theorem dL_law_596 : decode cL_law 596 = .ok (.aload 10, 2) := by decide +kernel
theorem dL_law_598 : decode cL_law 598 = .ok (.iload 13, 2) := by decide +kernel
theorem dL_law_600 : decode cL_law 600 = .ok (.iaload, 1) := by decide +kernel
theorem dL_law_601 : decode cL_law 601 = .ok (.invokevirtual 162, 3) := by decide +kernel
theorem dL_law_604 : decode cL_law 604 = .ok (.aload 11, 2) := by decide +kernel
theorem dL_law_606 : decode cL_law 606 = .ok (.iload 13, 2) := by decide +kernel
theorem dL_law_608 : decode cL_law 608 = .ok (.iaload, 1) := by decide +kernel
theorem dL_law_609 : decode cL_law 609 = .ok (.if_icmp .gt 5, 3) := by decide +kernel
theorem dL_law_612 : decode cL_law 612 = .ok (.iconst 0, 1) := by decide +kernel
theorem dL_law_613 : decode cL_law 613 = .ok (.ireturn, 1) := by decide +kernel
theorem dL_law_614 : decode cL_law 614 = .ok (.iinc 13 1, 3) := by decide +kernel
theorem dL_law_617 : decode cL_law 617 = .ok (.goto (-35), 3) := by decide +kernel
theorem dL_law_620 : decode cL_law 620 = .ok (.iinc 5 1, 3) := by decide +kernel
theorem dL_law_623 : decode cL_law 623 = .ok (.goto (-560), 3) := by decide +kernel
theorem dL_law_626 : decode cL_law 626 = .ok (.iconst 1, 1) := by decide +kernel
theorem dL_law_627 : decode cL_law 627 = .ok (.ireturn, 1) := by decide +kernel
