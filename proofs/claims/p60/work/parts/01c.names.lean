theorem dX1_init_0 : decode cX1_init 0 = .ok (.aload_n 0, 1) := by decide +kernel
theorem dX1_init_1 : decode cX1_init 1 = .ok (.invokespecial 3, 3) := by decide +kernel
theorem dX1_init_4 : decode cX1_init 4 = .ok (.aload_n 0, 1) := by decide +kernel
theorem dX1_init_5 : decode cX1_init 5 = .ok (.bipush 36, 2) := by decide +kernel
theorem dX1_init_7 : decode cX1_init 7 = .ok (.newarray .int, 2) := by decide +kernel
theorem dX1_init_9 : decode cX1_init 9 = .ok (.putfield 9, 3) := by decide +kernel
theorem dX1_init_12 : decode cX1_init 12 = .ok (.aload_n 0, 1) := by decide +kernel
theorem dX1_init_13 : decode cX1_init 13 = .ok (.bipush 6, 2) := by decide +kernel
theorem dX1_init_15 : decode cX1_init 15 = .ok (.newarray .int, 2) := by decide +kernel
theorem dX1_init_17 : decode cX1_init 17 = .ok (.putfield 15, 3) := by decide +kernel
theorem dX1_init_20 : decode cX1_init 20 = .ok (.aload_n 0, 1) := by decide +kernel
theorem dX1_init_21 : decode cX1_init 21 = .ok (.sipush 144, 3) := by decide +kernel
theorem dX1_init_24 : decode cX1_init 24 = .ok (.newarray .int, 2) := by decide +kernel
theorem dX1_init_26 : decode cX1_init 26 = .ok (.putfield 18, 3) := by decide +kernel
theorem dX1_init_29 : decode cX1_init 29 = .ok (.aload_n 0, 1) := by decide +kernel
theorem dX1_init_30 : decode cX1_init 30 = .ok (.bipush 24, 2) := by decide +kernel
theorem dX1_init_32 : decode cX1_init 32 = .ok (.newarray .int, 2) := by decide +kernel
theorem dX1_init_34 : decode cX1_init 34 = .ok (.putfield 21, 3) := by decide +kernel
theorem dX1_init_37 : decode cX1_init 37 = .ok (.return_, 1) := by decide +kernel
set_option maxRecDepth 20000 in
theorem ggX1_become_X1_assign : GoodIn wsX1_become wsX1_assign := goodIn_r _ [15] (by decide +kernel) (by decide +kernel)
set_option maxRecDepth 20000 in
theorem gX1_become_X1_assign : GoodIn wsX1_become (wsV RX1 37 RX1 yX1_assign wsX1_assign) := goodIn_app (goodIn_of _ (by decide +kernel)) ggX1_become_X1_assign
theorem dX1_become_0 : decode cX1_become 0 = .ok (.aload_n 0, 1) := by decide +kernel
theorem dX1_become_1 : decode cX1_become 1 = .ok (.aload_n 1, 1) := by decide +kernel
theorem dX1_become_2 : decode cX1_become 2 = .ok (.getfield 24, 3) := by decide +kernel
theorem dX1_become_5 : decode cX1_become 5 = .ok (.putfield 24, 3) := by decide +kernel
theorem dX1_become_8 : decode cX1_become 8 = .ok (.aload_n 0, 1) := by decide +kernel
theorem dX1_become_9 : decode cX1_become 9 = .ok (.aload_n 1, 1) := by decide +kernel
theorem dX1_become_10 : decode cX1_become 10 = .ok (.getfield 28, 3) := by decide +kernel
theorem dX1_become_13 : decode cX1_become 13 = .ok (.putfield 28, 3) := by decide +kernel
theorem dX1_become_16 : decode cX1_become 16 = .ok (.aload_n 1, 1) := by decide +kernel
theorem dX1_become_17 : decode cX1_become 17 = .ok (.getfield 9, 3) := by decide +kernel
theorem dX1_become_20 : decode cX1_become 20 = .ok (.iconst 0, 1) := by decide +kernel
theorem dX1_become_21 : decode cX1_become 21 = .ok (.aload_n 0, 1) := by decide +kernel
theorem dX1_become_22 : decode cX1_become 22 = .ok (.getfield 9, 3) := by decide +kernel
theorem dX1_become_25 : decode cX1_become 25 = .ok (.iconst 0, 1) := by decide +kernel
theorem dX1_become_26 : decode cX1_become 26 = .ok (.aload_n 0, 1) := by decide +kernel
theorem dX1_become_27 : decode cX1_become 27 = .ok (.getfield 9, 3) := by decide +kernel
theorem dX1_become_30 : decode cX1_become 30 = .ok (.arraylength, 1) := by decide +kernel
theorem dX1_become_31 : decode cX1_become 31 = .ok (.invokestatic 31, 3) := by decide +kernel
theorem dX1_become_34 : decode cX1_become 34 = .ok (.aload_n 1, 1) := by decide +kernel
theorem dX1_become_35 : decode cX1_become 35 = .ok (.getfield 15, 3) := by decide +kernel
theorem dX1_become_38 : decode cX1_become 38 = .ok (.iconst 0, 1) := by decide +kernel
theorem dX1_become_39 : decode cX1_become 39 = .ok (.aload_n 0, 1) := by decide +kernel
theorem dX1_become_40 : decode cX1_become 40 = .ok (.getfield 15, 3) := by decide +kernel
theorem dX1_become_43 : decode cX1_become 43 = .ok (.iconst 0, 1) := by decide +kernel
theorem dX1_become_44 : decode cX1_become 44 = .ok (.aload_n 0, 1) := by decide +kernel
theorem dX1_become_45 : decode cX1_become 45 = .ok (.getfield 15, 3) := by decide +kernel
theorem dX1_become_48 : decode cX1_become 48 = .ok (.arraylength, 1) := by decide +kernel
theorem dX1_become_49 : decode cX1_become 49 = .ok (.invokestatic 31, 3) := by decide +kernel
theorem dX1_become_52 : decode cX1_become 52 = .ok (.aload_n 1, 1) := by decide +kernel
theorem dX1_become_53 : decode cX1_become 53 = .ok (.getfield 18, 3) := by decide +kernel
theorem dX1_become_56 : decode cX1_become 56 = .ok (.iconst 0, 1) := by decide +kernel
theorem dX1_become_57 : decode cX1_become 57 = .ok (.aload_n 0, 1) := by decide +kernel
theorem dX1_become_58 : decode cX1_become 58 = .ok (.getfield 18, 3) := by decide +kernel
theorem dX1_become_61 : decode cX1_become 61 = .ok (.iconst 0, 1) := by decide +kernel
theorem dX1_become_62 : decode cX1_become 62 = .ok (.aload_n 0, 1) := by decide +kernel
theorem dX1_become_63 : decode cX1_become 63 = .ok (.getfield 18, 3) := by decide +kernel
theorem dX1_become_66 : decode cX1_become 66 = .ok (.arraylength, 1) := by decide +kernel
theorem dX1_become_67 : decode cX1_become 67 = .ok (.invokestatic 31, 3) := by decide +kernel
theorem dX1_become_70 : decode cX1_become 70 = .ok (.aload_n 0, 1) := by decide +kernel
theorem dX1_become_71 : decode cX1_become 71 = .ok (.aload_n 0, 1) := by decide +kernel
theorem dX1_become_72 : decode cX1_become 72 = .ok (.getfield 21, 3) := by decide +kernel
theorem dX1_become_75 : decode cX1_become 75 = .ok (.iconst (-1), 1) := by decide +kernel
theorem dX1_become_76 : decode cX1_become 76 = .ok (.iconst 0, 1) := by decide +kernel
theorem dX1_become_77 : decode cX1_become 77 = .ok (.aload_n 0, 1) := by decide +kernel
theorem dX1_become_78 : decode cX1_become 78 = .ok (.getfield 24, 3) := by decide +kernel
theorem dX1_become_81 : decode cX1_become 81 = .ok (.invokevirtual 37, 3) := by decide +kernel
theorem dX1_become_84 : decode cX1_become 84 = .ok (.return_, 1) := by decide +kernel
theorem dX1_hasSibling_0 : decode cX1_hasSibling 0 = .ok (.iload_n 1, 1) := by decide +kernel
theorem dX1_hasSibling_1 : decode cX1_hasSibling 1 = .ok (.ifCond .lt 15, 3) := by decide +kernel
theorem dX1_hasSibling_4 : decode cX1_hasSibling 4 = .ok (.iload_n 1, 1) := by decide +kernel
theorem dX1_hasSibling_5 : decode cX1_hasSibling 5 = .ok (.aload_n 0, 1) := by decide +kernel
theorem dX1_hasSibling_6 : decode cX1_hasSibling 6 = .ok (.getfield 28, 3) := by decide +kernel
theorem dX1_hasSibling_9 : decode cX1_hasSibling 9 = .ok (.if_icmp .ge 7, 3) := by decide +kernel
theorem dX1_hasSibling_12 : decode cX1_hasSibling 12 = .ok (.iconst 1, 1) := by decide +kernel
theorem dX1_hasSibling_13 : decode cX1_hasSibling 13 = .ok (.goto 4, 3) := by decide +kernel
theorem dX1_hasSibling_16 : decode cX1_hasSibling 16 = .ok (.iconst 0, 1) := by decide +kernel
theorem dX1_hasSibling_17 : decode cX1_hasSibling 17 = .ok (.ireturn, 1) := by decide +kernel
theorem dX1_hasCell_0 : decode cX1_hasCell 0 = .ok (.iload_n 1, 1) := by decide +kernel
theorem dX1_hasCell_1 : decode cX1_hasCell 1 = .ok (.ifCond .lt 15, 3) := by decide +kernel
theorem dX1_hasCell_4 : decode cX1_hasCell 4 = .ok (.iload_n 1, 1) := by decide +kernel
theorem dX1_hasCell_5 : decode cX1_hasCell 5 = .ok (.aload_n 0, 1) := by decide +kernel
theorem dX1_hasCell_6 : decode cX1_hasCell 6 = .ok (.getfield 24, 3) := by decide +kernel
theorem dX1_hasCell_9 : decode cX1_hasCell 9 = .ok (.if_icmp .ge 7, 3) := by decide +kernel
theorem dX1_hasCell_12 : decode cX1_hasCell 12 = .ok (.iconst 1, 1) := by decide +kernel
theorem dX1_hasCell_13 : decode cX1_hasCell 13 = .ok (.goto 4, 3) := by decide +kernel
theorem dX1_hasCell_16 : decode cX1_hasCell 16 = .ok (.iconst 0, 1) := by decide +kernel
theorem dX1_hasCell_17 : decode cX1_hasCell 17 = .ok (.ireturn, 1) := by decide +kernel
set_option maxRecDepth 20000 in
theorem ggX1_hasRun_X1_hasCell : GoodIn wsX1_hasRun wsX1_hasCell := goodIn_r _ [5, 6, 7, 8, 9, 10, 11, 12] (by decide +kernel) (by decide +kernel)
set_option maxRecDepth 20000 in
theorem gX1_hasRun_X1_hasCell : GoodIn wsX1_hasRun (wsV RX1 41 RX1 yX1_hasCell wsX1_hasCell) := goodIn_app (goodIn_of _ (by decide +kernel)) ggX1_hasRun_X1_hasCell
theorem dX1_hasRun_0 : decode cX1_hasRun 0 = .ok (.aload_n 0, 1) := by decide +kernel
theorem dX1_hasRun_1 : decode cX1_hasRun 1 = .ok (.iload_n 1, 1) := by decide +kernel
theorem dX1_hasRun_2 : decode cX1_hasRun 2 = .ok (.invokevirtual 41, 3) := by decide +kernel
theorem dX1_hasRun_5 : decode cX1_hasRun 5 = .ok (.ifCond .eq 20, 3) := by decide +kernel
theorem dX1_hasRun_8 : decode cX1_hasRun 8 = .ok (.aload_n 0, 1) := by decide +kernel
theorem dX1_hasRun_9 : decode cX1_hasRun 9 = .ok (.iload_n 2, 1) := by decide +kernel
theorem dX1_hasRun_10 : decode cX1_hasRun 10 = .ok (.invokevirtual 41, 3) := by decide +kernel
theorem dX1_hasRun_13 : decode cX1_hasRun 13 = .ok (.ifCond .eq 12, 3) := by decide +kernel
theorem dX1_hasRun_16 : decode cX1_hasRun 16 = .ok (.iload_n 1, 1) := by decide +kernel
theorem dX1_hasRun_17 : decode cX1_hasRun 17 = .ok (.iload_n 2, 1) := by decide +kernel
theorem dX1_hasRun_18 : decode cX1_hasRun 18 = .ok (.if_icmp .gt 7, 3) := by decide +kernel
theorem dX1_hasRun_21 : decode cX1_hasRun 21 = .ok (.iconst 1, 1) := by decide +kernel
theorem dX1_hasRun_22 : decode cX1_hasRun 22 = .ok (.goto 4, 3) := by decide +kernel
theorem dX1_hasRun_25 : decode cX1_hasRun 25 = .ok (.iconst 0, 1) := by decide +kernel
theorem dX1_hasRun_26 : decode cX1_hasRun 26 = .ok (.ireturn, 1) := by decide +kernel
theorem dX1_valueOf_0 : decode cX1_valueOf 0 = .ok (.aload_n 0, 1) := by decide +kernel
theorem dX1_valueOf_1 : decode cX1_valueOf 1 = .ok (.getfield 18, 3) := by decide +kernel
theorem dX1_valueOf_4 : decode cX1_valueOf 4 = .ok (.iload_n 1, 1) := by decide +kernel
theorem dX1_valueOf_5 : decode cX1_valueOf 5 = .ok (.bipush 24, 2) := by decide +kernel
theorem dX1_valueOf_7 : decode cX1_valueOf 7 = .ok (.imul, 1) := by decide +kernel
theorem dX1_valueOf_8 : decode cX1_valueOf 8 = .ok (.iload_n 2, 1) := by decide +kernel
theorem dX1_valueOf_9 : decode cX1_valueOf 9 = .ok (.iadd, 1) := by decide +kernel
theorem dX1_valueOf_10 : decode cX1_valueOf 10 = .ok (.iaload, 1) := by decide +kernel
theorem dX1_valueOf_11 : decode cX1_valueOf 11 = .ok (.ireturn, 1) := by decide +kernel
theorem dX1_putValue_0 : decode cX1_putValue 0 = .ok (.aload_n 0, 1) := by decide +kernel
theorem dX1_putValue_1 : decode cX1_putValue 1 = .ok (.getfield 18, 3) := by decide +kernel
theorem dX1_putValue_4 : decode cX1_putValue 4 = .ok (.iload_n 1, 1) := by decide +kernel
theorem dX1_putValue_5 : decode cX1_putValue 5 = .ok (.bipush 24, 2) := by decide +kernel
theorem dX1_putValue_7 : decode cX1_putValue 7 = .ok (.imul, 1) := by decide +kernel
theorem dX1_putValue_8 : decode cX1_putValue 8 = .ok (.iload_n 2, 1) := by decide +kernel
theorem dX1_putValue_9 : decode cX1_putValue 9 = .ok (.iadd, 1) := by decide +kernel
theorem dX1_putValue_10 : decode cX1_putValue 10 = .ok (.iload_n 3, 1) := by decide +kernel
theorem dX1_putValue_11 : decode cX1_putValue 11 = .ok (.iastore, 1) := by decide +kernel
theorem dX1_putValue_12 : decode cX1_putValue 12 = .ok (.return_, 1) := by decide +kernel
theorem dX1_worthOfRun_0 : decode cX1_worthOfRun 0 = .ok (.iload_n 1, 1) := by decide +kernel
theorem dX1_worthOfRun_1 : decode cX1_worthOfRun 1 = .ok (.bipush 24, 2) := by decide +kernel
theorem dX1_worthOfRun_3 : decode cX1_worthOfRun 3 = .ok (.imul, 1) := by decide +kernel
theorem dX1_worthOfRun_4 : decode cX1_worthOfRun 4 = .ok (.istore 4, 2) := by decide +kernel
theorem dX1_worthOfRun_6 : decode cX1_worthOfRun 6 = .ok (.iconst 0, 1) := by decide +kernel
theorem dX1_worthOfRun_7 : decode cX1_worthOfRun 7 = .ok (.istore 5, 2) := by decide +kernel
theorem dX1_worthOfRun_9 : decode cX1_worthOfRun 9 = .ok (.iload_n 2, 1) := by decide +kernel
theorem dX1_worthOfRun_10 : decode cX1_worthOfRun 10 = .ok (.istore 6, 2) := by decide +kernel
theorem dX1_worthOfRun_12 : decode cX1_worthOfRun 12 = .ok (.iload 6, 2) := by decide +kernel
theorem dX1_worthOfRun_14 : decode cX1_worthOfRun 14 = .ok (.iload_n 3, 1) := by decide +kernel
theorem dX1_worthOfRun_15 : decode cX1_worthOfRun 15 = .ok (.if_icmp .ge 24, 3) := by decide +kernel
theorem dX1_worthOfRun_18 : decode cX1_worthOfRun 18 = .ok (.iload 5, 2) := by decide +kernel
theorem dX1_worthOfRun_20 : decode cX1_worthOfRun 20 = .ok (.aload_n 0, 1) := by decide +kernel
theorem dX1_worthOfRun_21 : decode cX1_worthOfRun 21 = .ok (.getfield 18, 3) := by decide +kernel
theorem dX1_worthOfRun_24 : decode cX1_worthOfRun 24 = .ok (.iload 4, 2) := by decide +kernel
theorem dX1_worthOfRun_26 : decode cX1_worthOfRun 26 = .ok (.iload 6, 2) := by decide +kernel
theorem dX1_worthOfRun_28 : decode cX1_worthOfRun 28 = .ok (.iadd, 1) := by decide +kernel
theorem dX1_worthOfRun_29 : decode cX1_worthOfRun 29 = .ok (.iaload, 1) := by decide +kernel
theorem dX1_worthOfRun_30 : decode cX1_worthOfRun 30 = .ok (.iadd, 1) := by decide +kernel
theorem dX1_worthOfRun_31 : decode cX1_worthOfRun 31 = .ok (.istore 5, 2) := by decide +kernel
theorem dX1_worthOfRun_33 : decode cX1_worthOfRun 33 = .ok (.iinc 6 1, 3) := by decide +kernel
theorem dX1_worthOfRun_36 : decode cX1_worthOfRun 36 = .ok (.goto (-24), 3) := by decide +kernel
theorem dX1_worthOfRun_39 : decode cX1_worthOfRun 39 = .ok (.iload 5, 2) := by decide +kernel
theorem dX1_worthOfRun_41 : decode cX1_worthOfRun 41 = .ok (.ireturn, 1) := by decide +kernel
set_option maxRecDepth 20000 in
theorem ggX1_worthOfAll_X1_worthOfRun : GoodIn wsX1_worthOfAll wsX1_worthOfRun := goodIn_r _ [6, 7, 8, 9, 10, 11, 12, 13] (by decide +kernel) (by decide +kernel)
set_option maxRecDepth 20000 in
theorem gX1_worthOfAll_X1_worthOfRun : GoodIn wsX1_worthOfAll (wsV RX1 54 RX1 yX1_worthOfRun wsX1_worthOfRun) := goodIn_app (goodIn_of _ (by decide +kernel)) ggX1_worthOfAll_X1_worthOfRun
theorem dX1_worthOfAll_0 : decode cX1_worthOfAll 0 = .ok (.aload_n 0, 1) := by decide +kernel
theorem dX1_worthOfAll_1 : decode cX1_worthOfAll 1 = .ok (.iload_n 1, 1) := by decide +kernel
theorem dX1_worthOfAll_2 : decode cX1_worthOfAll 2 = .ok (.iconst 0, 1) := by decide +kernel
theorem dX1_worthOfAll_3 : decode cX1_worthOfAll 3 = .ok (.aload_n 0, 1) := by decide +kernel
theorem dX1_worthOfAll_4 : decode cX1_worthOfAll 4 = .ok (.getfield 24, 3) := by decide +kernel
theorem dX1_worthOfAll_7 : decode cX1_worthOfAll 7 = .ok (.invokevirtual 54, 3) := by decide +kernel
theorem dX1_worthOfAll_10 : decode cX1_worthOfAll 10 = .ok (.ireturn, 1) := by decide +kernel
theorem dX1_worthOfOwned_0 : decode cX1_worthOfOwned 0 = .ok (.iload_n 2, 1) := by decide +kernel
theorem dX1_worthOfOwned_1 : decode cX1_worthOfOwned 1 = .ok (.bipush 24, 2) := by decide +kernel
theorem dX1_worthOfOwned_3 : decode cX1_worthOfOwned 3 = .ok (.imul, 1) := by decide +kernel
theorem dX1_worthOfOwned_4 : decode cX1_worthOfOwned 4 = .ok (.istore 4, 2) := by decide +kernel
theorem dX1_worthOfOwned_6 : decode cX1_worthOfOwned 6 = .ok (.iconst 0, 1) := by decide +kernel
theorem dX1_worthOfOwned_7 : decode cX1_worthOfOwned 7 = .ok (.istore 5, 2) := by decide +kernel
theorem dX1_worthOfOwned_9 : decode cX1_worthOfOwned 9 = .ok (.iconst 0, 1) := by decide +kernel
theorem dX1_worthOfOwned_10 : decode cX1_worthOfOwned 10 = .ok (.istore 6, 2) := by decide +kernel
theorem dX1_worthOfOwned_12 : decode cX1_worthOfOwned 12 = .ok (.iload 6, 2) := by decide +kernel
theorem dX1_worthOfOwned_14 : decode cX1_worthOfOwned 14 = .ok (.aload_n 0, 1) := by decide +kernel
theorem dX1_worthOfOwned_15 : decode cX1_worthOfOwned 15 = .ok (.getfield 24, 3) := by decide +kernel
theorem dX1_worthOfOwned_18 : decode cX1_worthOfOwned 18 = .ok (.if_icmp .ge 32, 3) := by decide +kernel
theorem dX1_worthOfOwned_21 : decode cX1_worthOfOwned 21 = .ok (.aload_n 1, 1) := by decide +kernel
theorem dX1_worthOfOwned_22 : decode cX1_worthOfOwned 22 = .ok (.iload 6, 2) := by decide +kernel
theorem dX1_worthOfOwned_24 : decode cX1_worthOfOwned 24 = .ok (.iaload, 1) := by decide +kernel
theorem dX1_worthOfOwned_25 : decode cX1_worthOfOwned 25 = .ok (.iload_n 3, 1) := by decide +kernel
theorem dX1_worthOfOwned_26 : decode cX1_worthOfOwned 26 = .ok (.if_icmp .ne 18, 3) := by decide +kernel
theorem dX1_worthOfOwned_29 : decode cX1_worthOfOwned 29 = .ok (.iload 5, 2) := by decide +kernel
theorem dX1_worthOfOwned_31 : decode cX1_worthOfOwned 31 = .ok (.aload_n 0, 1) := by decide +kernel
theorem dX1_worthOfOwned_32 : decode cX1_worthOfOwned 32 = .ok (.getfield 18, 3) := by decide +kernel
theorem dX1_worthOfOwned_35 : decode cX1_worthOfOwned 35 = .ok (.iload 4, 2) := by decide +kernel
theorem dX1_worthOfOwned_37 : decode cX1_worthOfOwned 37 = .ok (.iload 6, 2) := by decide +kernel
theorem dX1_worthOfOwned_39 : decode cX1_worthOfOwned 39 = .ok (.iadd, 1) := by decide +kernel
theorem dX1_worthOfOwned_40 : decode cX1_worthOfOwned 40 = .ok (.iaload, 1) := by decide +kernel
theorem dX1_worthOfOwned_41 : decode cX1_worthOfOwned 41 = .ok (.iadd, 1) := by decide +kernel
theorem dX1_worthOfOwned_42 : decode cX1_worthOfOwned 42 = .ok (.istore 5, 2) := by decide +kernel
theorem dX1_worthOfOwned_44 : decode cX1_worthOfOwned 44 = .ok (.iinc 6 1, 3) := by decide +kernel
theorem dX1_worthOfOwned_47 : decode cX1_worthOfOwned 47 = .ok (.goto (-35), 3) := by decide +kernel
theorem dX1_worthOfOwned_50 : decode cX1_worthOfOwned 50 = .ok (.iload 5, 2) := by decide +kernel
theorem dX1_worthOfOwned_52 : decode cX1_worthOfOwned 52 = .ok (.ireturn, 1) := by decide +kernel
set_option maxRecDepth 20000 in
theorem ggX1_welfareOf_X1_worthOfOwned : GoodIn wsX1_welfareOf wsX1_worthOfOwned := goodIn_r _ [6, 7, 8, 9, 10, 11, 12, 13, 14] (by decide +kernel) (by decide +kernel)
set_option maxRecDepth 20000 in
theorem gX1_welfareOf_X1_worthOfOwned : GoodIn wsX1_welfareOf (wsV RX1 58 RX1 yX1_worthOfOwned wsX1_worthOfOwned) := goodIn_app (goodIn_of _ (by decide +kernel)) ggX1_welfareOf_X1_worthOfOwned
theorem dX1_welfareOf_0 : decode cX1_welfareOf 0 = .ok (.aload_n 0, 1) := by decide +kernel
theorem dX1_welfareOf_1 : decode cX1_welfareOf 1 = .ok (.aload_n 0, 1) := by decide +kernel
theorem dX1_welfareOf_2 : decode cX1_welfareOf 2 = .ok (.getfield 21, 3) := by decide +kernel
theorem dX1_welfareOf_5 : decode cX1_welfareOf 5 = .ok (.iload_n 1, 1) := by decide +kernel
theorem dX1_welfareOf_6 : decode cX1_welfareOf 6 = .ok (.iload_n 1, 1) := by decide +kernel
theorem dX1_welfareOf_7 : decode cX1_welfareOf 7 = .ok (.invokevirtual 58, 3) := by decide +kernel
theorem dX1_welfareOf_10 : decode cX1_welfareOf 10 = .ok (.ireturn, 1) := by decide +kernel
set_option maxRecDepth 20000 in
theorem ggX1_leastWelfareAmong_X1_worthOfOwned : GoodIn wsX1_leastWelfareAmong wsX1_worthOfOwned := goodIn_r _ [10, 11, 12, 13, 14, 15, 16, 17, 18] (by decide +kernel) (by decide +kernel)
set_option maxRecDepth 20000 in
theorem gX1_leastWelfareAmong_X1_worthOfOwned : GoodIn wsX1_leastWelfareAmong (wsV RX1 58 RX1 yX1_worthOfOwned wsX1_worthOfOwned) := goodIn_app (goodIn_of _ (by decide +kernel)) ggX1_leastWelfareAmong_X1_worthOfOwned
theorem dX1_leastWelfareAmong_0 : decode cX1_leastWelfareAmong 0 = .ok (.aload_n 0, 1) := by decide +kernel
theorem dX1_leastWelfareAmong_1 : decode cX1_leastWelfareAmong 1 = .ok (.aload_n 1, 1) := by decide +kernel
theorem dX1_leastWelfareAmong_2 : decode cX1_leastWelfareAmong 2 = .ok (.iconst 0, 1) := by decide +kernel
theorem dX1_leastWelfareAmong_3 : decode cX1_leastWelfareAmong 3 = .ok (.iconst 0, 1) := by decide +kernel
theorem dX1_leastWelfareAmong_4 : decode cX1_leastWelfareAmong 4 = .ok (.invokevirtual 58, 3) := by decide +kernel
theorem dX1_leastWelfareAmong_7 : decode cX1_leastWelfareAmong 7 = .ok (.istore_n 2, 1) := by decide +kernel
theorem dX1_leastWelfareAmong_8 : decode cX1_leastWelfareAmong 8 = .ok (.iconst 1, 1) := by decide +kernel
theorem dX1_leastWelfareAmong_9 : decode cX1_leastWelfareAmong 9 = .ok (.istore_n 3, 1) := by decide +kernel
theorem dX1_leastWelfareAmong_10 : decode cX1_leastWelfareAmong 10 = .ok (.iload_n 3, 1) := by decide +kernel
theorem dX1_leastWelfareAmong_11 : decode cX1_leastWelfareAmong 11 = .ok (.aload_n 0, 1) := by decide +kernel
theorem dX1_leastWelfareAmong_12 : decode cX1_leastWelfareAmong 12 = .ok (.getfield 28, 3) := by decide +kernel
theorem dX1_leastWelfareAmong_15 : decode cX1_leastWelfareAmong 15 = .ok (.if_icmp .ge 21, 3) := by decide +kernel
theorem dX1_leastWelfareAmong_18 : decode cX1_leastWelfareAmong 18 = .ok (.iload_n 2, 1) := by decide +kernel
theorem dX1_leastWelfareAmong_19 : decode cX1_leastWelfareAmong 19 = .ok (.aload_n 0, 1) := by decide +kernel
theorem dX1_leastWelfareAmong_20 : decode cX1_leastWelfareAmong 20 = .ok (.aload_n 1, 1) := by decide +kernel
theorem dX1_leastWelfareAmong_21 : decode cX1_leastWelfareAmong 21 = .ok (.iload_n 3, 1) := by decide +kernel
theorem dX1_leastWelfareAmong_22 : decode cX1_leastWelfareAmong 22 = .ok (.iload_n 3, 1) := by decide +kernel
theorem dX1_leastWelfareAmong_23 : decode cX1_leastWelfareAmong 23 = .ok (.invokevirtual 58, 3) := by decide +kernel
theorem dX1_leastWelfareAmong_26 : decode cX1_leastWelfareAmong 26 = .ok (.invokestatic 62, 3) := by decide +kernel
theorem dX1_leastWelfareAmong_29 : decode cX1_leastWelfareAmong 29 = .ok (.istore_n 2, 1) := by decide +kernel
theorem dX1_leastWelfareAmong_30 : decode cX1_leastWelfareAmong 30 = .ok (.iinc 3 1, 3) := by decide +kernel
theorem dX1_leastWelfareAmong_33 : decode cX1_leastWelfareAmong 33 = .ok (.goto (-23), 3) := by decide +kernel
theorem dX1_leastWelfareAmong_36 : decode cX1_leastWelfareAmong 36 = .ok (.iload_n 2, 1) := by decide +kernel
theorem dX1_leastWelfareAmong_37 : decode cX1_leastWelfareAmong 37 = .ok (.ireturn, 1) := by decide +kernel
theorem dX1_countOwned_0 : decode cX1_countOwned 0 = .ok (.iconst 0, 1) := by decide +kernel
theorem dX1_countOwned_1 : decode cX1_countOwned 1 = .ok (.istore_n 2, 1) := by decide +kernel
theorem dX1_countOwned_2 : decode cX1_countOwned 2 = .ok (.iconst 0, 1) := by decide +kernel
theorem dX1_countOwned_3 : decode cX1_countOwned 3 = .ok (.istore_n 3, 1) := by decide +kernel
theorem dX1_countOwned_4 : decode cX1_countOwned 4 = .ok (.iload_n 3, 1) := by decide +kernel
theorem dX1_countOwned_5 : decode cX1_countOwned 5 = .ok (.aload_n 0, 1) := by decide +kernel
theorem dX1_countOwned_6 : decode cX1_countOwned 6 = .ok (.getfield 24, 3) := by decide +kernel
theorem dX1_countOwned_9 : decode cX1_countOwned 9 = .ok (.if_icmp .ge 22, 3) := by decide +kernel
theorem dX1_countOwned_12 : decode cX1_countOwned 12 = .ok (.aload_n 0, 1) := by decide +kernel
theorem dX1_countOwned_13 : decode cX1_countOwned 13 = .ok (.getfield 21, 3) := by decide +kernel
theorem dX1_countOwned_16 : decode cX1_countOwned 16 = .ok (.iload_n 3, 1) := by decide +kernel
theorem dX1_countOwned_17 : decode cX1_countOwned 17 = .ok (.iaload, 1) := by decide +kernel
theorem dX1_countOwned_18 : decode cX1_countOwned 18 = .ok (.iload_n 1, 1) := by decide +kernel
theorem dX1_countOwned_19 : decode cX1_countOwned 19 = .ok (.if_icmp .ne 6, 3) := by decide +kernel
theorem dX1_countOwned_22 : decode cX1_countOwned 22 = .ok (.iinc 2 1, 3) := by decide +kernel
theorem dX1_countOwned_25 : decode cX1_countOwned 25 = .ok (.iinc 3 1, 3) := by decide +kernel
theorem dX1_countOwned_28 : decode cX1_countOwned 28 = .ok (.goto (-24), 3) := by decide +kernel
theorem dX1_countOwned_31 : decode cX1_countOwned 31 = .ok (.iload_n 2, 1) := by decide +kernel
theorem dX1_countOwned_32 : decode cX1_countOwned 32 = .ok (.ireturn, 1) := by decide +kernel
theorem dX1_assign_0 : decode cX1_assign 0 = .ok (.iload_n 3, 1) := by decide +kernel
theorem dX1_assign_1 : decode cX1_assign 1 = .ok (.istore 5, 2) := by decide +kernel
theorem dX1_assign_3 : decode cX1_assign 3 = .ok (.iload 5, 2) := by decide +kernel
theorem dX1_assign_5 : decode cX1_assign 5 = .ok (.iload 4, 2) := by decide +kernel
theorem dX1_assign_7 : decode cX1_assign 7 = .ok (.if_icmp .ge 14, 3) := by decide +kernel
theorem dX1_assign_10 : decode cX1_assign 10 = .ok (.aload_n 1, 1) := by decide +kernel
theorem dX1_assign_11 : decode cX1_assign 11 = .ok (.iload 5, 2) := by decide +kernel
theorem dX1_assign_13 : decode cX1_assign 13 = .ok (.iload_n 2, 1) := by decide +kernel
theorem dX1_assign_14 : decode cX1_assign 14 = .ok (.iastore, 1) := by decide +kernel
theorem dX1_assign_15 : decode cX1_assign 15 = .ok (.iinc 5 1, 3) := by decide +kernel
theorem dX1_assign_18 : decode cX1_assign 18 = .ok (.goto (-15), 3) := by decide +kernel
theorem dX1_assign_21 : decode cX1_assign 21 = .ok (.return_, 1) := by decide +kernel
theorem dX1_exchangeShares_0 : decode cX1_exchangeShares 0 = .ok (.iconst 0, 1) := by decide +kernel
theorem dX1_exchangeShares_1 : decode cX1_exchangeShares 1 = .ok (.istore_n 3, 1) := by decide +kernel
theorem dX1_exchangeShares_2 : decode cX1_exchangeShares 2 = .ok (.iload_n 3, 1) := by decide +kernel
theorem dX1_exchangeShares_3 : decode cX1_exchangeShares 3 = .ok (.aload_n 0, 1) := by decide +kernel
theorem dX1_exchangeShares_4 : decode cX1_exchangeShares 4 = .ok (.getfield 24, 3) := by decide +kernel
theorem dX1_exchangeShares_7 : decode cX1_exchangeShares 7 = .ok (.if_icmp .ge 46, 3) := by decide +kernel
theorem dX1_exchangeShares_10 : decode cX1_exchangeShares 10 = .ok (.aload_n 0, 1) := by decide +kernel
theorem dX1_exchangeShares_11 : decode cX1_exchangeShares 11 = .ok (.getfield 21, 3) := by decide +kernel
theorem dX1_exchangeShares_14 : decode cX1_exchangeShares 14 = .ok (.iload_n 3, 1) := by decide +kernel
theorem dX1_exchangeShares_15 : decode cX1_exchangeShares 15 = .ok (.iaload, 1) := by decide +kernel
theorem dX1_exchangeShares_16 : decode cX1_exchangeShares 16 = .ok (.iload_n 1, 1) := by decide +kernel
theorem dX1_exchangeShares_17 : decode cX1_exchangeShares 17 = .ok (.if_icmp .ne 13, 3) := by decide +kernel
theorem dX1_exchangeShares_20 : decode cX1_exchangeShares 20 = .ok (.aload_n 0, 1) := by decide +kernel
theorem dX1_exchangeShares_21 : decode cX1_exchangeShares 21 = .ok (.getfield 21, 3) := by decide +kernel
theorem dX1_exchangeShares_24 : decode cX1_exchangeShares 24 = .ok (.iload_n 3, 1) := by decide +kernel
theorem dX1_exchangeShares_25 : decode cX1_exchangeShares 25 = .ok (.iload_n 2, 1) := by decide +kernel
theorem dX1_exchangeShares_26 : decode cX1_exchangeShares 26 = .ok (.iastore, 1) := by decide +kernel
theorem dX1_exchangeShares_27 : decode cX1_exchangeShares 27 = .ok (.goto 20, 3) := by decide +kernel
theorem dX1_exchangeShares_30 : decode cX1_exchangeShares 30 = .ok (.aload_n 0, 1) := by decide +kernel
theorem dX1_exchangeShares_31 : decode cX1_exchangeShares 31 = .ok (.getfield 21, 3) := by decide +kernel
theorem dX1_exchangeShares_34 : decode cX1_exchangeShares 34 = .ok (.iload_n 3, 1) := by decide +kernel
theorem dX1_exchangeShares_35 : decode cX1_exchangeShares 35 = .ok (.iaload, 1) := by decide +kernel
theorem dX1_exchangeShares_36 : decode cX1_exchangeShares 36 = .ok (.iload_n 2, 1) := by decide +kernel
theorem dX1_exchangeShares_37 : decode cX1_exchangeShares 37 = .ok (.if_icmp .ne 10, 3) := by decide +kernel
theorem dX1_exchangeShares_40 : decode cX1_exchangeShares 40 = .ok (.aload_n 0, 1) := by decide +kernel
theorem dX1_exchangeShares_41 : decode cX1_exchangeShares 41 = .ok (.getfield 21, 3) := by decide +kernel
theorem dX1_exchangeShares_44 : decode cX1_exchangeShares 44 = .ok (.iload_n 3, 1) := by decide +kernel
theorem dX1_exchangeShares_45 : decode cX1_exchangeShares 45 = .ok (.iload_n 1, 1) := by decide +kernel
theorem dX1_exchangeShares_46 : decode cX1_exchangeShares 46 = .ok (.iastore, 1) := by decide +kernel
theorem dX1_exchangeShares_47 : decode cX1_exchangeShares 47 = .ok (.iinc 3 1, 3) := by decide +kernel
theorem dX1_exchangeShares_50 : decode cX1_exchangeShares 50 = .ok (.goto (-48), 3) := by decide +kernel
theorem dX1_exchangeShares_53 : decode cX1_exchangeShares 53 = .ok (.return_, 1) := by decide +kernel
theorem dX1_putName_0 : decode cX1_putName 0 = .ok (.iconst 0, 1) := by decide +kernel
theorem dX1_putName_1 : decode cX1_putName 1 = .ok (.istore 5, 2) := by decide +kernel
theorem dX1_putName_3 : decode cX1_putName 3 = .ok (.iload 5, 2) := by decide +kernel
theorem dX1_putName_5 : decode cX1_putName 5 = .ok (.iload 4, 2) := by decide +kernel
theorem dX1_putName_7 : decode cX1_putName 7 = .ok (.if_icmp .ge 30, 3) := by decide +kernel
theorem dX1_putName_10 : decode cX1_putName 10 = .ok (.aload_n 0, 1) := by decide +kernel
theorem dX1_putName_11 : decode cX1_putName 11 = .ok (.getfield 9, 3) := by decide +kernel
theorem dX1_putName_14 : decode cX1_putName 14 = .ok (.iload_n 1, 1) := by decide +kernel
theorem dX1_putName_15 : decode cX1_putName 15 = .ok (.bipush 6, 2) := by decide +kernel
theorem dX1_putName_17 : decode cX1_putName 17 = .ok (.imul, 1) := by decide +kernel
theorem dX1_putName_18 : decode cX1_putName 18 = .ok (.iload 5, 2) := by decide +kernel
theorem dX1_putName_20 : decode cX1_putName 20 = .ok (.iadd, 1) := by decide +kernel
theorem dX1_putName_21 : decode cX1_putName 21 = .ok (.aload_n 2, 1) := by decide +kernel
theorem dX1_putName_22 : decode cX1_putName 22 = .ok (.getfield 68, 3) := by decide +kernel
theorem dX1_putName_25 : decode cX1_putName 25 = .ok (.iload_n 3, 1) := by decide +kernel
theorem dX1_putName_26 : decode cX1_putName 26 = .ok (.iload 5, 2) := by decide +kernel
theorem dX1_putName_28 : decode cX1_putName 28 = .ok (.iadd, 1) := by decide +kernel
theorem dX1_putName_29 : decode cX1_putName 29 = .ok (.iaload, 1) := by decide +kernel
theorem dX1_putName_30 : decode cX1_putName 30 = .ok (.iastore, 1) := by decide +kernel
theorem dX1_putName_31 : decode cX1_putName 31 = .ok (.iinc 5 1, 3) := by decide +kernel
theorem dX1_putName_34 : decode cX1_putName 34 = .ok (.goto (-31), 3) := by decide +kernel
theorem dX1_putName_37 : decode cX1_putName 37 = .ok (.aload_n 0, 1) := by decide +kernel
theorem dX1_putName_38 : decode cX1_putName 38 = .ok (.getfield 15, 3) := by decide +kernel
theorem dX1_putName_41 : decode cX1_putName 41 = .ok (.iload_n 1, 1) := by decide +kernel
theorem dX1_putName_42 : decode cX1_putName 42 = .ok (.iload 4, 2) := by decide +kernel
theorem dX1_putName_44 : decode cX1_putName 44 = .ok (.iastore, 1) := by decide +kernel
theorem dX1_putName_45 : decode cX1_putName 45 = .ok (.return_, 1) := by decide +kernel
set_option maxRecDepth 20000 in
theorem ggX1_findName_X1_isName : GoodIn wsX1_findName wsX1_isName := goodIn_r _ [6, 7, 8, 9, 10, 11, 12, 13, 14, 15, 16, 17] (by decide +kernel) (by decide +kernel)
set_option maxRecDepth 20000 in
theorem gX1_findName_X1_isName : GoodIn wsX1_findName (wsV RX1 73 RX1 yX1_isName wsX1_isName) := goodIn_app (goodIn_of _ (by decide +kernel)) ggX1_findName_X1_isName
theorem dX1_findName_0 : decode cX1_findName 0 = .ok (.iconst 0, 1) := by decide +kernel
theorem dX1_findName_1 : decode cX1_findName 1 = .ok (.istore 4, 2) := by decide +kernel
theorem dX1_findName_3 : decode cX1_findName 3 = .ok (.iload 4, 2) := by decide +kernel
theorem dX1_findName_5 : decode cX1_findName 5 = .ok (.aload_n 0, 1) := by decide +kernel
theorem dX1_findName_6 : decode cX1_findName 6 = .ok (.getfield 28, 3) := by decide +kernel
theorem dX1_findName_9 : decode cX1_findName 9 = .ok (.if_icmp .ge 24, 3) := by decide +kernel
theorem dX1_findName_12 : decode cX1_findName 12 = .ok (.aload_n 0, 1) := by decide +kernel
theorem dX1_findName_13 : decode cX1_findName 13 = .ok (.iload 4, 2) := by decide +kernel
theorem dX1_findName_15 : decode cX1_findName 15 = .ok (.aload_n 1, 1) := by decide +kernel
theorem dX1_findName_16 : decode cX1_findName 16 = .ok (.iload_n 2, 1) := by decide +kernel
theorem dX1_findName_17 : decode cX1_findName 17 = .ok (.iload_n 3, 1) := by decide +kernel
theorem dX1_findName_18 : decode cX1_findName 18 = .ok (.invokevirtual 73, 3) := by decide +kernel
theorem dX1_findName_21 : decode cX1_findName 21 = .ok (.ifCond .eq 6, 3) := by decide +kernel
theorem dX1_findName_24 : decode cX1_findName 24 = .ok (.iload 4, 2) := by decide +kernel
theorem dX1_findName_26 : decode cX1_findName 26 = .ok (.ireturn, 1) := by decide +kernel
theorem dX1_findName_27 : decode cX1_findName 27 = .ok (.iinc 4 1, 3) := by decide +kernel
theorem dX1_findName_30 : decode cX1_findName 30 = .ok (.goto (-27), 3) := by decide +kernel
theorem dX1_findName_33 : decode cX1_findName 33 = .ok (.iconst (-1), 1) := by decide +kernel
theorem dX1_findName_34 : decode cX1_findName 34 = .ok (.ireturn, 1) := by decide +kernel
theorem dX1_isName_0 : decode cX1_isName 0 = .ok (.aload_n 0, 1) := by decide +kernel
theorem dX1_isName_1 : decode cX1_isName 1 = .ok (.getfield 15, 3) := by decide +kernel
theorem dX1_isName_4 : decode cX1_isName 4 = .ok (.iload_n 1, 1) := by decide +kernel
theorem dX1_isName_5 : decode cX1_isName 5 = .ok (.iaload, 1) := by decide +kernel
theorem dX1_isName_6 : decode cX1_isName 6 = .ok (.iload 4, 2) := by decide +kernel
theorem dX1_isName_8 : decode cX1_isName 8 = .ok (.if_icmp .eq 5, 3) := by decide +kernel
theorem dX1_isName_11 : decode cX1_isName 11 = .ok (.iconst 0, 1) := by decide +kernel
theorem dX1_isName_12 : decode cX1_isName 12 = .ok (.ireturn, 1) := by decide +kernel
theorem dX1_isName_13 : decode cX1_isName 13 = .ok (.iconst 0, 1) := by decide +kernel
theorem dX1_isName_14 : decode cX1_isName 14 = .ok (.istore 5, 2) := by decide +kernel
theorem dX1_isName_16 : decode cX1_isName 16 = .ok (.iload 5, 2) := by decide +kernel
theorem dX1_isName_18 : decode cX1_isName 18 = .ok (.iload 4, 2) := by decide +kernel
theorem dX1_isName_20 : decode cX1_isName 20 = .ok (.if_icmp .ge 35, 3) := by decide +kernel
theorem dX1_isName_23 : decode cX1_isName 23 = .ok (.aload_n 0, 1) := by decide +kernel
theorem dX1_isName_24 : decode cX1_isName 24 = .ok (.getfield 9, 3) := by decide +kernel
theorem dX1_isName_27 : decode cX1_isName 27 = .ok (.iload_n 1, 1) := by decide +kernel
theorem dX1_isName_28 : decode cX1_isName 28 = .ok (.bipush 6, 2) := by decide +kernel
theorem dX1_isName_30 : decode cX1_isName 30 = .ok (.imul, 1) := by decide +kernel
theorem dX1_isName_31 : decode cX1_isName 31 = .ok (.iload 5, 2) := by decide +kernel
theorem dX1_isName_33 : decode cX1_isName 33 = .ok (.iadd, 1) := by decide +kernel
theorem dX1_isName_34 : decode cX1_isName 34 = .ok (.iaload, 1) := by decide +kernel
theorem dX1_isName_35 : decode cX1_isName 35 = .ok (.aload_n 2, 1) := by decide +kernel
theorem dX1_isName_36 : decode cX1_isName 36 = .ok (.getfield 68, 3) := by decide +kernel
theorem dX1_isName_39 : decode cX1_isName 39 = .ok (.iload_n 3, 1) := by decide +kernel
theorem dX1_isName_40 : decode cX1_isName 40 = .ok (.iload 5, 2) := by decide +kernel
theorem dX1_isName_42 : decode cX1_isName 42 = .ok (.iadd, 1) := by decide +kernel
theorem dX1_isName_43 : decode cX1_isName 43 = .ok (.iaload, 1) := by decide +kernel
theorem dX1_isName_44 : decode cX1_isName 44 = .ok (.if_icmp .eq 5, 3) := by decide +kernel
theorem dX1_isName_47 : decode cX1_isName 47 = .ok (.iconst 0, 1) := by decide +kernel
theorem dX1_isName_48 : decode cX1_isName 48 = .ok (.ireturn, 1) := by decide +kernel
theorem dX1_isName_49 : decode cX1_isName 49 = .ok (.iinc 5 1, 3) := by decide +kernel
theorem dX1_isName_52 : decode cX1_isName 52 = .ok (.goto (-36), 3) := by decide +kernel
theorem dX1_isName_55 : decode cX1_isName 55 = .ok (.iconst 1, 1) := by decide +kernel
theorem dX1_isName_56 : decode cX1_isName 56 = .ok (.ireturn, 1) := by decide +kernel
theorem dX2_init_0 : decode cX2_init 0 = .ok (.aload_n 0, 1) := by decide +kernel
theorem dX2_init_1 : decode cX2_init 1 = .ok (.invokespecial 3, 3) := by decide +kernel
theorem dX2_init_4 : decode cX2_init 4 = .ok (.aload_n 0, 1) := by decide +kernel
theorem dX2_init_5 : decode cX2_init 5 = .ok (.sipush 1600, 3) := by decide +kernel
theorem dX2_init_8 : decode cX2_init 8 = .ok (.newarray .int, 2) := by decide +kernel
theorem dX2_init_10 : decode cX2_init 10 = .ok (.putfield 11, 3) := by decide +kernel
theorem dX2_init_13 : decode cX2_init 13 = .ok (.aload_n 0, 1) := by decide +kernel
theorem dX2_init_14 : decode cX2_init 14 = .ok (.bipush 64, 2) := by decide +kernel
theorem dX2_init_16 : decode cX2_init 16 = .ok (.newarray .int, 2) := by decide +kernel
theorem dX2_init_18 : decode cX2_init 18 = .ok (.putfield 15, 3) := by decide +kernel
theorem dX2_init_21 : decode cX2_init 21 = .ok (.aload_n 0, 1) := by decide +kernel
theorem dX2_init_22 : decode cX2_init 22 = .ok (.aload_n 1, 1) := by decide +kernel
theorem dX2_init_23 : decode cX2_init 23 = .ok (.putfield 18, 3) := by decide +kernel
theorem dX2_init_26 : decode cX2_init 26 = .ok (.return_, 1) := by decide +kernel
theorem dX3_init_0 : decode cX3_init 0 = .ok (.aload_n 0, 1) := by decide +kernel
theorem dX3_init_1 : decode cX3_init 1 = .ok (.invokespecial 3, 3) := by decide +kernel
theorem dX3_init_4 : decode cX3_init 4 = .ok (.aload_n 0, 1) := by decide +kernel
theorem dX3_init_5 : decode cX3_init 5 = .ok (.bipush 6, 2) := by decide +kernel
theorem dX3_init_7 : decode cX3_init 7 = .ok (.newarray .int, 2) := by decide +kernel
theorem dX3_init_9 : decode cX3_init 9 = .ok (.putfield 9, 3) := by decide +kernel
theorem dX3_init_12 : decode cX3_init 12 = .ok (.aload_n 0, 1) := by decide +kernel
theorem dX3_init_13 : decode cX3_init 13 = .ok (.bipush 6, 2) := by decide +kernel
theorem dX3_init_15 : decode cX3_init 15 = .ok (.newarray .int, 2) := by decide +kernel
theorem dX3_init_17 : decode cX3_init 17 = .ok (.putfield 15, 3) := by decide +kernel
theorem dX3_init_20 : decode cX3_init 20 = .ok (.aload_n 0, 1) := by decide +kernel
theorem dX3_init_21 : decode cX3_init 21 = .ok (.bipush 36, 2) := by decide +kernel
theorem dX3_init_23 : decode cX3_init 23 = .ok (.newarray .int, 2) := by decide +kernel
theorem dX3_init_25 : decode cX3_init 25 = .ok (.putfield 18, 3) := by decide +kernel
theorem dX3_init_28 : decode cX3_init 28 = .ok (.aload_n 0, 1) := by decide +kernel
theorem dX3_init_29 : decode cX3_init 29 = .ok (.aload_n 1, 1) := by decide +kernel
theorem dX3_init_30 : decode cX3_init 30 = .ok (.putfield 21, 3) := by decide +kernel
theorem dX3_init_33 : decode cX3_init 33 = .ok (.return_, 1) := by decide +kernel
set_option maxRecDepth 20000 in
theorem ggX3_hasEnvy_X1_worthOfOwned : GoodIn wsX3_hasEnvy wsX1_worthOfOwned := goodIn_r _ [7, 8, 9, 14, 15, 16, 17, 18, 19] (by decide +kernel) (by decide +kernel)
set_option maxRecDepth 20000 in
theorem gX3_hasEnvy_X1_worthOfOwned : GoodIn wsX3_hasEnvy (wsV RX3 30 RX1 yX1_worthOfOwned wsX1_worthOfOwned) := goodIn_app (goodIn_of _ (by decide +kernel)) ggX3_hasEnvy_X1_worthOfOwned
theorem dX3_hasEnvy_0 : decode cX3_hasEnvy 0 = .ok (.aload_n 0, 1) := by decide +kernel
theorem dX3_hasEnvy_1 : decode cX3_hasEnvy 1 = .ok (.getfield 21, 3) := by decide +kernel
theorem dX3_hasEnvy_4 : decode cX3_hasEnvy 4 = .ok (.aload_n 0, 1) := by decide +kernel
theorem dX3_hasEnvy_5 : decode cX3_hasEnvy 5 = .ok (.getfield 21, 3) := by decide +kernel
theorem dX3_hasEnvy_8 : decode cX3_hasEnvy 8 = .ok (.getfield 25, 3) := by decide +kernel
theorem dX3_hasEnvy_11 : decode cX3_hasEnvy 11 = .ok (.iload_n 1, 1) := by decide +kernel
theorem dX3_hasEnvy_12 : decode cX3_hasEnvy 12 = .ok (.iload_n 1, 1) := by decide +kernel
theorem dX3_hasEnvy_13 : decode cX3_hasEnvy 13 = .ok (.invokevirtual 30, 3) := by decide +kernel
theorem dX3_hasEnvy_16 : decode cX3_hasEnvy 16 = .ok (.istore_n 3, 1) := by decide +kernel
theorem dX3_hasEnvy_17 : decode cX3_hasEnvy 17 = .ok (.aload_n 0, 1) := by decide +kernel
theorem dX3_hasEnvy_18 : decode cX3_hasEnvy 18 = .ok (.getfield 21, 3) := by decide +kernel
theorem dX3_hasEnvy_21 : decode cX3_hasEnvy 21 = .ok (.aload_n 0, 1) := by decide +kernel
theorem dX3_hasEnvy_22 : decode cX3_hasEnvy 22 = .ok (.getfield 21, 3) := by decide +kernel
theorem dX3_hasEnvy_25 : decode cX3_hasEnvy 25 = .ok (.getfield 25, 3) := by decide +kernel
theorem dX3_hasEnvy_28 : decode cX3_hasEnvy 28 = .ok (.iload_n 1, 1) := by decide +kernel
theorem dX3_hasEnvy_29 : decode cX3_hasEnvy 29 = .ok (.iload_n 2, 1) := by decide +kernel
theorem dX3_hasEnvy_30 : decode cX3_hasEnvy 30 = .ok (.invokevirtual 30, 3) := by decide +kernel
theorem dX3_hasEnvy_33 : decode cX3_hasEnvy 33 = .ok (.iload_n 3, 1) := by decide +kernel
theorem dX3_hasEnvy_34 : decode cX3_hasEnvy 34 = .ok (.if_icmp .le 7, 3) := by decide +kernel
theorem dX3_hasEnvy_37 : decode cX3_hasEnvy 37 = .ok (.iconst 1, 1) := by decide +kernel
theorem dX3_hasEnvy_38 : decode cX3_hasEnvy 38 = .ok (.goto 4, 3) := by decide +kernel
theorem dX3_hasEnvy_41 : decode cX3_hasEnvy 41 = .ok (.iconst 0, 1) := by decide +kernel
theorem dX3_hasEnvy_42 : decode cX3_hasEnvy 42 = .ok (.ireturn, 1) := by decide +kernel
set_option maxRecDepth 20000 in
theorem ggX3_hasStrongEnvy_X1_worthOfOwned : GoodIn wsX3_hasStrongEnvy wsX1_worthOfOwned := goodIn_r _ [7, 8, 9, 34, 35, 36, 37, 38, 39] (by decide +kernel) (by decide +kernel)
set_option maxRecDepth 20000 in
theorem gX3_hasStrongEnvy_X1_worthOfOwned : GoodIn wsX3_hasStrongEnvy (wsV RX3 30 RX1 yX1_worthOfOwned wsX1_worthOfOwned) := goodIn_app (goodIn_of _ (by decide +kernel)) ggX3_hasStrongEnvy_X1_worthOfOwned
set_option maxRecDepth 20000 in
theorem ggX3_hasStrongEnvy_X3_dearestOwned : GoodIn wsX3_hasStrongEnvy wsX3_dearestOwned := goodIn_r _ [14, 1, 15, 2, 16, 17, 18, 19, 20, 21, 22, 6, 23, 9, 30, 31, 32, 33, 34, 35, 36, 37, 38, 39] (by decide +kernel) (by decide +kernel)
set_option maxRecDepth 20000 in
theorem gX3_hasStrongEnvy_X3_dearestOwned : GoodIn wsX3_hasStrongEnvy (wsV RX3 34 RX3 yX3_dearestOwned wsX3_dearestOwned) := goodIn_app (goodIn_of _ (by decide +kernel)) ggX3_hasStrongEnvy_X3_dearestOwned
set_option maxRecDepth 20000 in
theorem ggX3_hasStrongEnvy_X1_welfareOf : GoodIn wsX3_hasStrongEnvy wsX1_welfareOf := goodIn_r _ [27, 28, 29, 4, 5, 6, 7, 8, 9, 34, 35, 36, 37, 38, 39] (by decide +kernel) (by decide +kernel)
set_option maxRecDepth 20000 in
theorem gX3_hasStrongEnvy_X1_welfareOf : GoodIn wsX3_hasStrongEnvy (wsV RX3 38 RX1 yX1_welfareOf wsX1_welfareOf) := goodIn_app (goodIn_of _ (by decide +kernel)) ggX3_hasStrongEnvy_X1_welfareOf
theorem dX3_hasStrongEnvy_0 : decode cX3_hasStrongEnvy 0 = .ok (.aload_n 0, 1) := by decide +kernel
theorem dX3_hasStrongEnvy_1 : decode cX3_hasStrongEnvy 1 = .ok (.getfield 21, 3) := by decide +kernel
theorem dX3_hasStrongEnvy_4 : decode cX3_hasStrongEnvy 4 = .ok (.aload_n 0, 1) := by decide +kernel
theorem dX3_hasStrongEnvy_5 : decode cX3_hasStrongEnvy 5 = .ok (.getfield 21, 3) := by decide +kernel
theorem dX3_hasStrongEnvy_8 : decode cX3_hasStrongEnvy 8 = .ok (.getfield 25, 3) := by decide +kernel
theorem dX3_hasStrongEnvy_11 : decode cX3_hasStrongEnvy 11 = .ok (.iload_n 1, 1) := by decide +kernel
theorem dX3_hasStrongEnvy_12 : decode cX3_hasStrongEnvy 12 = .ok (.iload_n 2, 1) := by decide +kernel
theorem dX3_hasStrongEnvy_13 : decode cX3_hasStrongEnvy 13 = .ok (.invokevirtual 30, 3) := by decide +kernel
theorem dX3_hasStrongEnvy_16 : decode cX3_hasStrongEnvy 16 = .ok (.istore_n 3, 1) := by decide +kernel
theorem dX3_hasStrongEnvy_17 : decode cX3_hasStrongEnvy 17 = .ok (.iload_n 3, 1) := by decide +kernel
theorem dX3_hasStrongEnvy_18 : decode cX3_hasStrongEnvy 18 = .ok (.aload_n 0, 1) := by decide +kernel
theorem dX3_hasStrongEnvy_19 : decode cX3_hasStrongEnvy 19 = .ok (.iload_n 1, 1) := by decide +kernel
theorem dX3_hasStrongEnvy_20 : decode cX3_hasStrongEnvy 20 = .ok (.iload_n 2, 1) := by decide +kernel
theorem dX3_hasStrongEnvy_21 : decode cX3_hasStrongEnvy 21 = .ok (.invokevirtual 34, 3) := by decide +kernel
theorem dX3_hasStrongEnvy_24 : decode cX3_hasStrongEnvy 24 = .ok (.isub, 1) := by decide +kernel
theorem dX3_hasStrongEnvy_25 : decode cX3_hasStrongEnvy 25 = .ok (.aload_n 0, 1) := by decide +kernel
theorem dX3_hasStrongEnvy_26 : decode cX3_hasStrongEnvy 26 = .ok (.getfield 21, 3) := by decide +kernel
theorem dX3_hasStrongEnvy_29 : decode cX3_hasStrongEnvy 29 = .ok (.iload_n 1, 1) := by decide +kernel
theorem dX3_hasStrongEnvy_30 : decode cX3_hasStrongEnvy 30 = .ok (.invokevirtual 38, 3) := by decide +kernel
theorem dX3_hasStrongEnvy_33 : decode cX3_hasStrongEnvy 33 = .ok (.if_icmp .le 7, 3) := by decide +kernel
theorem dX3_hasStrongEnvy_36 : decode cX3_hasStrongEnvy 36 = .ok (.iconst 1, 1) := by decide +kernel
theorem dX3_hasStrongEnvy_37 : decode cX3_hasStrongEnvy 37 = .ok (.goto 4, 3) := by decide +kernel
theorem dX3_hasStrongEnvy_40 : decode cX3_hasStrongEnvy 40 = .ok (.iconst 0, 1) := by decide +kernel
theorem dX3_hasStrongEnvy_41 : decode cX3_hasStrongEnvy 41 = .ok (.ireturn, 1) := by decide +kernel
set_option maxRecDepth 20000 in
theorem ggX3_dearestOwned_X1_valueOf : GoodIn wsX3_dearestOwned wsX1_valueOf := goodIn_r _ [12, 13, 18, 19, 20, 21, 22, 23] (by decide +kernel) (by decide +kernel)
set_option maxRecDepth 20000 in
theorem gX3_dearestOwned_X1_valueOf : GoodIn wsX3_dearestOwned (wsV RX3 46 RX1 yX1_valueOf wsX1_valueOf) := goodIn_app (goodIn_of _ (by decide +kernel)) ggX3_dearestOwned_X1_valueOf
theorem dX3_dearestOwned_0 : decode cX3_dearestOwned 0 = .ok (.iconst 0, 1) := by decide +kernel
theorem dX3_dearestOwned_1 : decode cX3_dearestOwned 1 = .ok (.istore_n 3, 1) := by decide +kernel
theorem dX3_dearestOwned_2 : decode cX3_dearestOwned 2 = .ok (.iconst 0, 1) := by decide +kernel
theorem dX3_dearestOwned_3 : decode cX3_dearestOwned 3 = .ok (.istore 4, 2) := by decide +kernel
theorem dX3_dearestOwned_5 : decode cX3_dearestOwned 5 = .ok (.iload 4, 2) := by decide +kernel
theorem dX3_dearestOwned_7 : decode cX3_dearestOwned 7 = .ok (.aload_n 0, 1) := by decide +kernel
theorem dX3_dearestOwned_8 : decode cX3_dearestOwned 8 = .ok (.getfield 21, 3) := by decide +kernel
theorem dX3_dearestOwned_11 : decode cX3_dearestOwned 11 = .ok (.getfield 42, 3) := by decide +kernel
theorem dX3_dearestOwned_14 : decode cX3_dearestOwned 14 = .ok (.if_icmp .ge 38, 3) := by decide +kernel
theorem dX3_dearestOwned_17 : decode cX3_dearestOwned 17 = .ok (.aload_n 0, 1) := by decide +kernel
theorem dX3_dearestOwned_18 : decode cX3_dearestOwned 18 = .ok (.getfield 21, 3) := by decide +kernel
theorem dX3_dearestOwned_21 : decode cX3_dearestOwned 21 = .ok (.getfield 25, 3) := by decide +kernel
theorem dX3_dearestOwned_24 : decode cX3_dearestOwned 24 = .ok (.iload 4, 2) := by decide +kernel
theorem dX3_dearestOwned_26 : decode cX3_dearestOwned 26 = .ok (.iaload, 1) := by decide +kernel
theorem dX3_dearestOwned_27 : decode cX3_dearestOwned 27 = .ok (.iload_n 2, 1) := by decide +kernel
theorem dX3_dearestOwned_28 : decode cX3_dearestOwned 28 = .ok (.if_icmp .ne 18, 3) := by decide +kernel
theorem dX3_dearestOwned_31 : decode cX3_dearestOwned 31 = .ok (.iload_n 3, 1) := by decide +kernel
theorem dX3_dearestOwned_32 : decode cX3_dearestOwned 32 = .ok (.aload_n 0, 1) := by decide +kernel
theorem dX3_dearestOwned_33 : decode cX3_dearestOwned 33 = .ok (.getfield 21, 3) := by decide +kernel
theorem dX3_dearestOwned_36 : decode cX3_dearestOwned 36 = .ok (.iload_n 1, 1) := by decide +kernel
theorem dX3_dearestOwned_37 : decode cX3_dearestOwned 37 = .ok (.iload 4, 2) := by decide +kernel
theorem dX3_dearestOwned_39 : decode cX3_dearestOwned 39 = .ok (.invokevirtual 46, 3) := by decide +kernel
theorem dX3_dearestOwned_42 : decode cX3_dearestOwned 42 = .ok (.invokestatic 49, 3) := by decide +kernel
theorem dX3_dearestOwned_45 : decode cX3_dearestOwned 45 = .ok (.istore_n 3, 1) := by decide +kernel
theorem dX3_dearestOwned_46 : decode cX3_dearestOwned 46 = .ok (.iinc 4 1, 3) := by decide +kernel
theorem dX3_dearestOwned_49 : decode cX3_dearestOwned 49 = .ok (.goto (-44), 3) := by decide +kernel
theorem dX3_dearestOwned_52 : decode cX3_dearestOwned 52 = .ok (.iload_n 3, 1) := by decide +kernel
theorem dX3_dearestOwned_53 : decode cX3_dearestOwned 53 = .ok (.ireturn, 1) := by decide +kernel
set_option maxRecDepth 20000 in
theorem ggX3_countEnvies_X3_countEnviers : GoodIn wsX3_countEnvies wsX3_countEnviers := goodIn_r _ [7, 1, 2, 8, 9, 10, 6, 11, 12, 13, 14, 15, 16, 17, 18, 19, 20, 21, 22, 23, 24, 25, 26, 27, 28, 29] (by decide +kernel) (by decide +kernel)
set_option maxRecDepth 20000 in
theorem gX3_countEnvies_X3_countEnviers : GoodIn wsX3_countEnvies (wsV RX3 57 RX3 yX3_countEnviers wsX3_countEnviers) := goodIn_app (goodIn_of _ (by decide +kernel)) ggX3_countEnvies_X3_countEnviers
theorem dX3_countEnvies_0 : decode cX3_countEnvies 0 = .ok (.iconst 0, 1) := by decide +kernel
theorem dX3_countEnvies_1 : decode cX3_countEnvies 1 = .ok (.istore_n 1, 1) := by decide +kernel
theorem dX3_countEnvies_2 : decode cX3_countEnvies 2 = .ok (.iconst 0, 1) := by decide +kernel
theorem dX3_countEnvies_3 : decode cX3_countEnvies 3 = .ok (.istore_n 2, 1) := by decide +kernel
theorem dX3_countEnvies_4 : decode cX3_countEnvies 4 = .ok (.iload_n 2, 1) := by decide +kernel
theorem dX3_countEnvies_5 : decode cX3_countEnvies 5 = .ok (.aload_n 0, 1) := by decide +kernel
theorem dX3_countEnvies_6 : decode cX3_countEnvies 6 = .ok (.getfield 21, 3) := by decide +kernel
theorem dX3_countEnvies_9 : decode cX3_countEnvies 9 = .ok (.getfield 54, 3) := by decide +kernel
theorem dX3_countEnvies_12 : decode cX3_countEnvies 12 = .ok (.if_icmp .ge 17, 3) := by decide +kernel
theorem dX3_countEnvies_15 : decode cX3_countEnvies 15 = .ok (.iload_n 1, 1) := by decide +kernel
theorem dX3_countEnvies_16 : decode cX3_countEnvies 16 = .ok (.aload_n 0, 1) := by decide +kernel
theorem dX3_countEnvies_17 : decode cX3_countEnvies 17 = .ok (.iload_n 2, 1) := by decide +kernel
theorem dX3_countEnvies_18 : decode cX3_countEnvies 18 = .ok (.invokevirtual 57, 3) := by decide +kernel
theorem dX3_countEnvies_21 : decode cX3_countEnvies 21 = .ok (.iadd, 1) := by decide +kernel
theorem dX3_countEnvies_22 : decode cX3_countEnvies 22 = .ok (.istore_n 1, 1) := by decide +kernel
theorem dX3_countEnvies_23 : decode cX3_countEnvies 23 = .ok (.iinc 2 1, 3) := by decide +kernel
theorem dX3_countEnvies_26 : decode cX3_countEnvies 26 = .ok (.goto (-22), 3) := by decide +kernel
theorem dX3_countEnvies_29 : decode cX3_countEnvies 29 = .ok (.iload_n 1, 1) := by decide +kernel
theorem dX3_countEnvies_30 : decode cX3_countEnvies 30 = .ok (.ireturn, 1) := by decide +kernel
set_option maxRecDepth 20000 in
theorem ggX3_countEnviers_X3_hasEnvy : GoodIn wsX3_countEnviers wsX3_hasEnvy := goodIn_r _ [7, 1, 8, 9, 10, 11, 12, 13, 14, 15, 16, 17, 18, 19, 20, 21, 22, 23, 24, 25] (by decide +kernel) (by decide +kernel)
set_option maxRecDepth 20000 in
theorem gX3_countEnviers_X3_hasEnvy : GoodIn wsX3_countEnviers (wsV RX3 60 RX3 yX3_hasEnvy wsX3_hasEnvy) := goodIn_app (goodIn_of _ (by decide +kernel)) ggX3_countEnviers_X3_hasEnvy
theorem dX3_countEnviers_0 : decode cX3_countEnviers 0 = .ok (.iconst 0, 1) := by decide +kernel
theorem dX3_countEnviers_1 : decode cX3_countEnviers 1 = .ok (.istore_n 2, 1) := by decide +kernel
theorem dX3_countEnviers_2 : decode cX3_countEnviers 2 = .ok (.iconst 0, 1) := by decide +kernel
theorem dX3_countEnviers_3 : decode cX3_countEnviers 3 = .ok (.istore_n 3, 1) := by decide +kernel
theorem dX3_countEnviers_4 : decode cX3_countEnviers 4 = .ok (.iload_n 3, 1) := by decide +kernel
theorem dX3_countEnviers_5 : decode cX3_countEnviers 5 = .ok (.aload_n 0, 1) := by decide +kernel
theorem dX3_countEnviers_6 : decode cX3_countEnviers 6 = .ok (.getfield 21, 3) := by decide +kernel
theorem dX3_countEnviers_9 : decode cX3_countEnviers 9 = .ok (.getfield 54, 3) := by decide +kernel
theorem dX3_countEnviers_12 : decode cX3_countEnviers 12 = .ok (.if_icmp .ge 21, 3) := by decide +kernel
theorem dX3_countEnviers_15 : decode cX3_countEnviers 15 = .ok (.aload_n 0, 1) := by decide +kernel
theorem dX3_countEnviers_16 : decode cX3_countEnviers 16 = .ok (.iload_n 3, 1) := by decide +kernel
theorem dX3_countEnviers_17 : decode cX3_countEnviers 17 = .ok (.iload_n 1, 1) := by decide +kernel
theorem dX3_countEnviers_18 : decode cX3_countEnviers 18 = .ok (.invokevirtual 60, 3) := by decide +kernel
theorem dX3_countEnviers_21 : decode cX3_countEnviers 21 = .ok (.ifCond .eq 6, 3) := by decide +kernel
theorem dX3_countEnviers_24 : decode cX3_countEnviers 24 = .ok (.iinc 2 1, 3) := by decide +kernel
theorem dX3_countEnviers_27 : decode cX3_countEnviers 27 = .ok (.iinc 3 1, 3) := by decide +kernel
theorem dX3_countEnviers_30 : decode cX3_countEnviers 30 = .ok (.goto (-26), 3) := by decide +kernel
theorem dX3_countEnviers_33 : decode cX3_countEnviers 33 = .ok (.iload_n 2, 1) := by decide +kernel
theorem dX3_countEnviers_34 : decode cX3_countEnviers 34 = .ok (.ireturn, 1) := by decide +kernel
set_option maxRecDepth 20000 in
theorem ggX3_countStrongEnvies_X3_hasStrongEnvy : GoodIn wsX3_countStrongEnvies wsX3_hasStrongEnvy := goodIn_r _ [7, 1, 8, 9, 10, 11, 12, 13, 14, 15, 16, 17, 18, 6, 19, 20, 21, 22, 23, 24, 25, 26, 27, 28, 29, 30, 31, 32, 33, 34, 35, 36, 37, 38, 39, 40, 41, 42, 43, 44] (by decide +kernel) (by decide +kernel)
set_option maxRecDepth 20000 in
theorem gX3_countStrongEnvies_X3_hasStrongEnvy : GoodIn wsX3_countStrongEnvies (wsV RX3 64 RX3 yX3_hasStrongEnvy wsX3_hasStrongEnvy) := goodIn_app (goodIn_of _ (by decide +kernel)) ggX3_countStrongEnvies_X3_hasStrongEnvy
theorem dX3_countStrongEnvies_0 : decode cX3_countStrongEnvies 0 = .ok (.iconst 0, 1) := by decide +kernel
theorem dX3_countStrongEnvies_1 : decode cX3_countStrongEnvies 1 = .ok (.istore_n 1, 1) := by decide +kernel
theorem dX3_countStrongEnvies_2 : decode cX3_countStrongEnvies 2 = .ok (.iconst 0, 1) := by decide +kernel
theorem dX3_countStrongEnvies_3 : decode cX3_countStrongEnvies 3 = .ok (.istore_n 2, 1) := by decide +kernel
theorem dX3_countStrongEnvies_4 : decode cX3_countStrongEnvies 4 = .ok (.iload_n 2, 1) := by decide +kernel
theorem dX3_countStrongEnvies_5 : decode cX3_countStrongEnvies 5 = .ok (.aload_n 0, 1) := by decide +kernel
theorem dX3_countStrongEnvies_6 : decode cX3_countStrongEnvies 6 = .ok (.getfield 21, 3) := by decide +kernel
theorem dX3_countStrongEnvies_9 : decode cX3_countStrongEnvies 9 = .ok (.getfield 54, 3) := by decide +kernel
theorem dX3_countStrongEnvies_12 : decode cX3_countStrongEnvies 12 = .ok (.if_icmp .ge 40, 3) := by decide +kernel
theorem dX3_countStrongEnvies_15 : decode cX3_countStrongEnvies 15 = .ok (.iconst 0, 1) := by decide +kernel
theorem dX3_countStrongEnvies_16 : decode cX3_countStrongEnvies 16 = .ok (.istore_n 3, 1) := by decide +kernel
theorem dX3_countStrongEnvies_17 : decode cX3_countStrongEnvies 17 = .ok (.iload_n 3, 1) := by decide +kernel
theorem dX3_countStrongEnvies_18 : decode cX3_countStrongEnvies 18 = .ok (.aload_n 0, 1) := by decide +kernel
theorem dX3_countStrongEnvies_19 : decode cX3_countStrongEnvies 19 = .ok (.getfield 21, 3) := by decide +kernel
theorem dX3_countStrongEnvies_22 : decode cX3_countStrongEnvies 22 = .ok (.getfield 54, 3) := by decide +kernel
theorem dX3_countStrongEnvies_25 : decode cX3_countStrongEnvies 25 = .ok (.if_icmp .ge 21, 3) := by decide +kernel
theorem dX3_countStrongEnvies_28 : decode cX3_countStrongEnvies 28 = .ok (.aload_n 0, 1) := by decide +kernel
theorem dX3_countStrongEnvies_29 : decode cX3_countStrongEnvies 29 = .ok (.iload_n 2, 1) := by decide +kernel
theorem dX3_countStrongEnvies_30 : decode cX3_countStrongEnvies 30 = .ok (.iload_n 3, 1) := by decide +kernel
theorem dX3_countStrongEnvies_31 : decode cX3_countStrongEnvies 31 = .ok (.invokevirtual 64, 3) := by decide +kernel
theorem dX3_countStrongEnvies_34 : decode cX3_countStrongEnvies 34 = .ok (.ifCond .eq 6, 3) := by decide +kernel
theorem dX3_countStrongEnvies_37 : decode cX3_countStrongEnvies 37 = .ok (.iinc 1 1, 3) := by decide +kernel
theorem dX3_countStrongEnvies_40 : decode cX3_countStrongEnvies 40 = .ok (.iinc 3 1, 3) := by decide +kernel
theorem dX3_countStrongEnvies_43 : decode cX3_countStrongEnvies 43 = .ok (.goto (-26), 3) := by decide +kernel
theorem dX3_countStrongEnvies_46 : decode cX3_countStrongEnvies 46 = .ok (.iinc 2 1, 3) := by decide +kernel
theorem dX3_countStrongEnvies_49 : decode cX3_countStrongEnvies 49 = .ok (.goto (-45), 3) := by decide +kernel
theorem dX3_countStrongEnvies_52 : decode cX3_countStrongEnvies 52 = .ok (.iload_n 1, 1) := by decide +kernel
theorem dX3_countStrongEnvies_53 : decode cX3_countStrongEnvies 53 = .ok (.ireturn, 1) := by decide +kernel
set_option maxRecDepth 20000 in
theorem ggX3_hasFairShare_X1_welfareOf : GoodIn wsX3_hasFairShare wsX1_welfareOf := goodIn_r _ [7, 8, 9, 10, 11, 6, 12, 13, 14, 27, 28, 29, 30, 31, 32] (by decide +kernel) (by decide +kernel)
set_option maxRecDepth 20000 in
theorem gX3_hasFairShare_X1_welfareOf : GoodIn wsX3_hasFairShare (wsV RX3 38 RX1 yX1_welfareOf wsX1_welfareOf) := goodIn_app (goodIn_of _ (by decide +kernel)) ggX3_hasFairShare_X1_welfareOf
set_option maxRecDepth 20000 in
theorem ggX3_hasFairShare_X1_worthOfAll : GoodIn wsX3_hasFairShare wsX1_worthOfAll := goodIn_r _ [18, 13, 19, 20, 21, 6, 22, 14, 27, 28, 29, 30, 31, 32] (by decide +kernel) (by decide +kernel)
set_option maxRecDepth 20000 in
theorem gX3_hasFairShare_X1_worthOfAll : GoodIn wsX3_hasFairShare (wsV RX3 67 RX1 yX1_worthOfAll wsX1_worthOfAll) := goodIn_app (goodIn_of _ (by decide +kernel)) ggX3_hasFairShare_X1_worthOfAll
theorem dX3_hasFairShare_0 : decode cX3_hasFairShare 0 = .ok (.aload_n 0, 1) := by decide +kernel
theorem dX3_hasFairShare_1 : decode cX3_hasFairShare 1 = .ok (.getfield 21, 3) := by decide +kernel
theorem dX3_hasFairShare_4 : decode cX3_hasFairShare 4 = .ok (.iload_n 1, 1) := by decide +kernel
theorem dX3_hasFairShare_5 : decode cX3_hasFairShare 5 = .ok (.invokevirtual 38, 3) := by decide +kernel
theorem dX3_hasFairShare_8 : decode cX3_hasFairShare 8 = .ok (.aload_n 0, 1) := by decide +kernel
theorem dX3_hasFairShare_9 : decode cX3_hasFairShare 9 = .ok (.getfield 21, 3) := by decide +kernel
theorem dX3_hasFairShare_12 : decode cX3_hasFairShare 12 = .ok (.getfield 54, 3) := by decide +kernel
theorem dX3_hasFairShare_15 : decode cX3_hasFairShare 15 = .ok (.imul, 1) := by decide +kernel
theorem dX3_hasFairShare_16 : decode cX3_hasFairShare 16 = .ok (.aload_n 0, 1) := by decide +kernel
theorem dX3_hasFairShare_17 : decode cX3_hasFairShare 17 = .ok (.getfield 21, 3) := by decide +kernel
theorem dX3_hasFairShare_20 : decode cX3_hasFairShare 20 = .ok (.iload_n 1, 1) := by decide +kernel
theorem dX3_hasFairShare_21 : decode cX3_hasFairShare 21 = .ok (.invokevirtual 67, 3) := by decide +kernel
theorem dX3_hasFairShare_24 : decode cX3_hasFairShare 24 = .ok (.if_icmp .lt 7, 3) := by decide +kernel
theorem dX3_hasFairShare_27 : decode cX3_hasFairShare 27 = .ok (.iconst 1, 1) := by decide +kernel
theorem dX3_hasFairShare_28 : decode cX3_hasFairShare 28 = .ok (.goto 4, 3) := by decide +kernel
theorem dX3_hasFairShare_31 : decode cX3_hasFairShare 31 = .ok (.iconst 0, 1) := by decide +kernel
theorem dX3_hasFairShare_32 : decode cX3_hasFairShare 32 = .ok (.ireturn, 1) := by decide +kernel
set_option maxRecDepth 20000 in
theorem ggX3_countFairShares_X3_hasFairShare : GoodIn wsX3_countFairShares wsX3_hasFairShare := goodIn_r _ [7, 1, 2, 8, 9, 10, 11, 12, 13, 14, 15, 16, 17, 18, 19, 20, 21, 22, 23, 24, 25, 26, 27, 28, 29, 30, 31, 32, 33, 34, 35, 36, 37] (by decide +kernel) (by decide +kernel)
set_option maxRecDepth 20000 in
theorem gX3_countFairShares_X3_hasFairShare : GoodIn wsX3_countFairShares (wsV RX3 70 RX3 yX3_hasFairShare wsX3_hasFairShare) := goodIn_app (goodIn_of _ (by decide +kernel)) ggX3_countFairShares_X3_hasFairShare
theorem dX3_countFairShares_0 : decode cX3_countFairShares 0 = .ok (.iconst 0, 1) := by decide +kernel
theorem dX3_countFairShares_1 : decode cX3_countFairShares 1 = .ok (.istore_n 1, 1) := by decide +kernel
theorem dX3_countFairShares_2 : decode cX3_countFairShares 2 = .ok (.iconst 0, 1) := by decide +kernel
theorem dX3_countFairShares_3 : decode cX3_countFairShares 3 = .ok (.istore_n 2, 1) := by decide +kernel
theorem dX3_countFairShares_4 : decode cX3_countFairShares 4 = .ok (.iload_n 2, 1) := by decide +kernel
theorem dX3_countFairShares_5 : decode cX3_countFairShares 5 = .ok (.aload_n 0, 1) := by decide +kernel
theorem dX3_countFairShares_6 : decode cX3_countFairShares 6 = .ok (.getfield 21, 3) := by decide +kernel
theorem dX3_countFairShares_9 : decode cX3_countFairShares 9 = .ok (.getfield 54, 3) := by decide +kernel
theorem dX3_countFairShares_12 : decode cX3_countFairShares 12 = .ok (.if_icmp .ge 20, 3) := by decide +kernel
theorem dX3_countFairShares_15 : decode cX3_countFairShares 15 = .ok (.aload_n 0, 1) := by decide +kernel
theorem dX3_countFairShares_16 : decode cX3_countFairShares 16 = .ok (.iload_n 2, 1) := by decide +kernel
theorem dX3_countFairShares_17 : decode cX3_countFairShares 17 = .ok (.invokevirtual 70, 3) := by decide +kernel
theorem dX3_countFairShares_20 : decode cX3_countFairShares 20 = .ok (.ifCond .eq 6, 3) := by decide +kernel
theorem dX3_countFairShares_23 : decode cX3_countFairShares 23 = .ok (.iinc 1 1, 3) := by decide +kernel
theorem dX3_countFairShares_26 : decode cX3_countFairShares 26 = .ok (.iinc 2 1, 3) := by decide +kernel
theorem dX3_countFairShares_29 : decode cX3_countFairShares 29 = .ok (.goto (-25), 3) := by decide +kernel
theorem dX3_countFairShares_32 : decode cX3_countFairShares 32 = .ok (.iload_n 1, 1) := by decide +kernel
theorem dX3_countFairShares_33 : decode cX3_countFairShares 33 = .ok (.ireturn, 1) := by decide +kernel
set_option maxRecDepth 20000 in
theorem ggX3_findCycle_X3_measureWorths : GoodIn wsX3_findCycle wsX3_measureWorths := goodIn_r _ [6, 7, 8, 9, 10, 11, 12, 13, 14, 15, 16, 17, 31, 32, 33, 34, 35, 36, 37, 38, 39, 40] (by decide +kernel) (by decide +kernel)
set_option maxRecDepth 20000 in
theorem gX3_findCycle_X3_measureWorths : GoodIn wsX3_findCycle (wsV RX3 74 RX3 yX3_measureWorths wsX3_measureWorths) := goodIn_app (goodIn_of _ (by decide +kernel)) ggX3_findCycle_X3_measureWorths
set_option maxRecDepth 20000 in
theorem ggX3_findCycle_X3_measureDistances : GoodIn wsX3_findCycle wsX3_measureDistances := goodIn_r _ [21, 7, 8, 22, 23, 24, 25, 5, 26, 9, 31, 32, 33, 34, 35, 36, 37, 38, 39, 40] (by decide +kernel) (by decide +kernel)
set_option maxRecDepth 20000 in
theorem gX3_findCycle_X3_measureDistances : GoodIn wsX3_findCycle (wsV RX3 77 RX3 yX3_measureDistances wsX3_measureDistances) := goodIn_app (goodIn_of _ (by decide +kernel)) ggX3_findCycle_X3_measureDistances
set_option maxRecDepth 20000 in
theorem ggX3_findCycle_X3_shortestWayRound : GoodIn wsX3_findCycle wsX3_shortestWayRound := goodIn_r _ [30, 7, 8, 23, 24, 25, 5, 26, 22, 9, 31, 32, 33, 34, 35, 36, 37, 38, 39, 40] (by decide +kernel) (by decide +kernel)
set_option maxRecDepth 20000 in
theorem gX3_findCycle_X3_shortestWayRound : GoodIn wsX3_findCycle (wsV RX3 81 RX3 yX3_shortestWayRound wsX3_shortestWayRound) := goodIn_app (goodIn_of _ (by decide +kernel)) ggX3_findCycle_X3_shortestWayRound
set_option maxRecDepth 20000 in
theorem ggX3_findCycle_X3_firstEnviedAt : GoodIn wsX3_findCycle wsX3_firstEnviedAt := goodIn_r _ [26, 7, 8, 22, 9, 31, 32, 33, 34, 35, 36, 37, 38, 39, 40] (by decide +kernel) (by decide +kernel)
set_option maxRecDepth 20000 in
theorem gX3_findCycle_X3_firstEnviedAt : GoodIn wsX3_findCycle (wsV RX3 84 RX3 yX3_firstEnviedAt wsX3_firstEnviedAt) := goodIn_app (goodIn_of _ (by decide +kernel)) ggX3_findCycle_X3_firstEnviedAt
theorem dX3_findCycle_0 : decode cX3_findCycle 0 = .ok (.aload_n 0, 1) := by decide +kernel
theorem dX3_findCycle_1 : decode cX3_findCycle 1 = .ok (.invokevirtual 74, 3) := by decide +kernel
theorem dX3_findCycle_4 : decode cX3_findCycle 4 = .ok (.aload_n 0, 1) := by decide +kernel
theorem dX3_findCycle_5 : decode cX3_findCycle 5 = .ok (.iload_n 1, 1) := by decide +kernel
theorem dX3_findCycle_6 : decode cX3_findCycle 6 = .ok (.invokevirtual 77, 3) := by decide +kernel
theorem dX3_findCycle_9 : decode cX3_findCycle 9 = .ok (.aload_n 0, 1) := by decide +kernel
theorem dX3_findCycle_10 : decode cX3_findCycle 10 = .ok (.iload_n 1, 1) := by decide +kernel
theorem dX3_findCycle_11 : decode cX3_findCycle 11 = .ok (.invokevirtual 81, 3) := by decide +kernel
theorem dX3_findCycle_14 : decode cX3_findCycle 14 = .ok (.istore_n 2, 1) := by decide +kernel
theorem dX3_findCycle_15 : decode cX3_findCycle 15 = .ok (.iload_n 2, 1) := by decide +kernel
theorem dX3_findCycle_16 : decode cX3_findCycle 16 = .ok (.iconst (-1), 1) := by decide +kernel
theorem dX3_findCycle_17 : decode cX3_findCycle 17 = .ok (.if_icmp .ne 5, 3) := by decide +kernel
theorem dX3_findCycle_20 : decode cX3_findCycle 20 = .ok (.iconst (-1), 1) := by decide +kernel
theorem dX3_findCycle_21 : decode cX3_findCycle 21 = .ok (.ireturn, 1) := by decide +kernel
theorem dX3_findCycle_22 : decode cX3_findCycle 22 = .ok (.aload_n 0, 1) := by decide +kernel
theorem dX3_findCycle_23 : decode cX3_findCycle 23 = .ok (.getfield 9, 3) := by decide +kernel
theorem dX3_findCycle_26 : decode cX3_findCycle 26 = .ok (.iconst 0, 1) := by decide +kernel
theorem dX3_findCycle_27 : decode cX3_findCycle 27 = .ok (.iload_n 1, 1) := by decide +kernel
theorem dX3_findCycle_28 : decode cX3_findCycle 28 = .ok (.iastore, 1) := by decide +kernel
theorem dX3_findCycle_29 : decode cX3_findCycle 29 = .ok (.iconst 1, 1) := by decide +kernel
theorem dX3_findCycle_30 : decode cX3_findCycle 30 = .ok (.istore_n 3, 1) := by decide +kernel
theorem dX3_findCycle_31 : decode cX3_findCycle 31 = .ok (.iload_n 3, 1) := by decide +kernel
theorem dX3_findCycle_32 : decode cX3_findCycle 32 = .ok (.iload_n 2, 1) := by decide +kernel
theorem dX3_findCycle_33 : decode cX3_findCycle 33 = .ok (.if_icmp .ge 30, 3) := by decide +kernel
theorem dX3_findCycle_36 : decode cX3_findCycle 36 = .ok (.aload_n 0, 1) := by decide +kernel
theorem dX3_findCycle_37 : decode cX3_findCycle 37 = .ok (.getfield 9, 3) := by decide +kernel
theorem dX3_findCycle_40 : decode cX3_findCycle 40 = .ok (.iload_n 3, 1) := by decide +kernel
theorem dX3_findCycle_41 : decode cX3_findCycle 41 = .ok (.aload_n 0, 1) := by decide +kernel
theorem dX3_findCycle_42 : decode cX3_findCycle 42 = .ok (.iload_n 2, 1) := by decide +kernel
theorem dX3_findCycle_43 : decode cX3_findCycle 43 = .ok (.iload_n 3, 1) := by decide +kernel
theorem dX3_findCycle_44 : decode cX3_findCycle 44 = .ok (.isub, 1) := by decide +kernel
theorem dX3_findCycle_45 : decode cX3_findCycle 45 = .ok (.aload_n 0, 1) := by decide +kernel
theorem dX3_findCycle_46 : decode cX3_findCycle 46 = .ok (.getfield 9, 3) := by decide +kernel
theorem dX3_findCycle_49 : decode cX3_findCycle 49 = .ok (.iload_n 3, 1) := by decide +kernel
theorem dX3_findCycle_50 : decode cX3_findCycle 50 = .ok (.iconst 1, 1) := by decide +kernel
theorem dX3_findCycle_51 : decode cX3_findCycle 51 = .ok (.isub, 1) := by decide +kernel
theorem dX3_findCycle_52 : decode cX3_findCycle 52 = .ok (.iaload, 1) := by decide +kernel
theorem dX3_findCycle_53 : decode cX3_findCycle 53 = .ok (.invokevirtual 84, 3) := by decide +kernel
theorem dX3_findCycle_56 : decode cX3_findCycle 56 = .ok (.iastore, 1) := by decide +kernel
theorem dX3_findCycle_57 : decode cX3_findCycle 57 = .ok (.iinc 3 1, 3) := by decide +kernel
theorem dX3_findCycle_60 : decode cX3_findCycle 60 = .ok (.goto (-29), 3) := by decide +kernel
theorem dX3_findCycle_63 : decode cX3_findCycle 63 = .ok (.iload_n 2, 1) := by decide +kernel
theorem dX3_findCycle_64 : decode cX3_findCycle 64 = .ok (.ireturn, 1) := by decide +kernel
set_option maxRecDepth 20000 in
theorem ggX3_measureWorths_X1_worthOfOwned : GoodIn wsX3_measureWorths wsX1_worthOfOwned := goodIn_r _ [9, 10, 11, 16, 17, 18, 19, 20, 21] (by decide +kernel) (by decide +kernel)
set_option maxRecDepth 20000 in
theorem gX3_measureWorths_X1_worthOfOwned : GoodIn wsX3_measureWorths (wsV RX3 30 RX1 yX1_worthOfOwned wsX1_worthOfOwned) := goodIn_app (goodIn_of _ (by decide +kernel)) ggX3_measureWorths_X1_worthOfOwned
theorem dX3_measureWorths_0 : decode cX3_measureWorths 0 = .ok (.iconst 0, 1) := by decide +kernel
theorem dX3_measureWorths_1 : decode cX3_measureWorths 1 = .ok (.istore_n 1, 1) := by decide +kernel
theorem dX3_measureWorths_2 : decode cX3_measureWorths 2 = .ok (.iload_n 1, 1) := by decide +kernel
theorem dX3_measureWorths_3 : decode cX3_measureWorths 3 = .ok (.aload_n 0, 1) := by decide +kernel
theorem dX3_measureWorths_4 : decode cX3_measureWorths 4 = .ok (.getfield 21, 3) := by decide +kernel
theorem dX3_measureWorths_7 : decode cX3_measureWorths 7 = .ok (.getfield 54, 3) := by decide +kernel
theorem dX3_measureWorths_10 : decode cX3_measureWorths 10 = .ok (.if_icmp .ge 55, 3) := by decide +kernel
theorem dX3_measureWorths_13 : decode cX3_measureWorths 13 = .ok (.iconst 0, 1) := by decide +kernel
theorem dX3_measureWorths_14 : decode cX3_measureWorths 14 = .ok (.istore_n 2, 1) := by decide +kernel
theorem dX3_measureWorths_15 : decode cX3_measureWorths 15 = .ok (.iload_n 2, 1) := by decide +kernel
theorem dX3_measureWorths_16 : decode cX3_measureWorths 16 = .ok (.aload_n 0, 1) := by decide +kernel
theorem dX3_measureWorths_17 : decode cX3_measureWorths 17 = .ok (.getfield 21, 3) := by decide +kernel
theorem dX3_measureWorths_20 : decode cX3_measureWorths 20 = .ok (.getfield 54, 3) := by decide +kernel
theorem dX3_measureWorths_23 : decode cX3_measureWorths 23 = .ok (.if_icmp .ge 36, 3) := by decide +kernel
theorem dX3_measureWorths_26 : decode cX3_measureWorths 26 = .ok (.aload_n 0, 1) := by decide +kernel
theorem dX3_measureWorths_27 : decode cX3_measureWorths 27 = .ok (.getfield 18, 3) := by decide +kernel
theorem dX3_measureWorths_30 : decode cX3_measureWorths 30 = .ok (.iload_n 1, 1) := by decide +kernel
theorem dX3_measureWorths_31 : decode cX3_measureWorths 31 = .ok (.bipush 6, 2) := by decide +kernel
theorem dX3_measureWorths_33 : decode cX3_measureWorths 33 = .ok (.imul, 1) := by decide +kernel
theorem dX3_measureWorths_34 : decode cX3_measureWorths 34 = .ok (.iload_n 2, 1) := by decide +kernel
theorem dX3_measureWorths_35 : decode cX3_measureWorths 35 = .ok (.iadd, 1) := by decide +kernel
theorem dX3_measureWorths_36 : decode cX3_measureWorths 36 = .ok (.aload_n 0, 1) := by decide +kernel
theorem dX3_measureWorths_37 : decode cX3_measureWorths 37 = .ok (.getfield 21, 3) := by decide +kernel
theorem dX3_measureWorths_40 : decode cX3_measureWorths 40 = .ok (.aload_n 0, 1) := by decide +kernel
theorem dX3_measureWorths_41 : decode cX3_measureWorths 41 = .ok (.getfield 21, 3) := by decide +kernel
theorem dX3_measureWorths_44 : decode cX3_measureWorths 44 = .ok (.getfield 25, 3) := by decide +kernel
theorem dX3_measureWorths_47 : decode cX3_measureWorths 47 = .ok (.iload_n 1, 1) := by decide +kernel
theorem dX3_measureWorths_48 : decode cX3_measureWorths 48 = .ok (.iload_n 2, 1) := by decide +kernel
theorem dX3_measureWorths_49 : decode cX3_measureWorths 49 = .ok (.invokevirtual 30, 3) := by decide +kernel
theorem dX3_measureWorths_52 : decode cX3_measureWorths 52 = .ok (.iastore, 1) := by decide +kernel
theorem dX3_measureWorths_53 : decode cX3_measureWorths 53 = .ok (.iinc 2 1, 3) := by decide +kernel
theorem dX3_measureWorths_56 : decode cX3_measureWorths 56 = .ok (.goto (-41), 3) := by decide +kernel
theorem dX3_measureWorths_59 : decode cX3_measureWorths 59 = .ok (.iinc 1 1, 3) := by decide +kernel
theorem dX3_measureWorths_62 : decode cX3_measureWorths 62 = .ok (.goto (-60), 3) := by decide +kernel
theorem dX3_measureWorths_65 : decode cX3_measureWorths 65 = .ok (.return_, 1) := by decide +kernel
set_option maxRecDepth 20000 in
theorem ggX3_measureDistances_X3_firstEnviedAt : GoodIn wsX3_measureDistances wsX3_firstEnviedAt := goodIn_r _ [8, 1, 2, 3, 9, 10, 11, 12, 13, 14, 15, 16, 17, 18, 19] (by decide +kernel) (by decide +kernel)
set_option maxRecDepth 20000 in
theorem gX3_measureDistances_X3_firstEnviedAt : GoodIn wsX3_measureDistances (wsV RX3 84 RX3 yX3_firstEnviedAt wsX3_firstEnviedAt) := goodIn_app (goodIn_of _ (by decide +kernel)) ggX3_measureDistances_X3_firstEnviedAt
theorem dX3_measureDistances_0 : decode cX3_measureDistances 0 = .ok (.iconst 0, 1) := by decide +kernel
theorem dX3_measureDistances_1 : decode cX3_measureDistances 1 = .ok (.istore_n 2, 1) := by decide +kernel
theorem dX3_measureDistances_2 : decode cX3_measureDistances 2 = .ok (.iload_n 2, 1) := by decide +kernel
theorem dX3_measureDistances_3 : decode cX3_measureDistances 3 = .ok (.aload_n 0, 1) := by decide +kernel
theorem dX3_measureDistances_4 : decode cX3_measureDistances 4 = .ok (.getfield 21, 3) := by decide +kernel
theorem dX3_measureDistances_7 : decode cX3_measureDistances 7 = .ok (.getfield 54, 3) := by decide +kernel
theorem dX3_measureDistances_10 : decode cX3_measureDistances 10 = .ok (.if_icmp .ge 17, 3) := by decide +kernel
theorem dX3_measureDistances_13 : decode cX3_measureDistances 13 = .ok (.aload_n 0, 1) := by decide +kernel
theorem dX3_measureDistances_14 : decode cX3_measureDistances 14 = .ok (.getfield 15, 3) := by decide +kernel
theorem dX3_measureDistances_17 : decode cX3_measureDistances 17 = .ok (.iload_n 2, 1) := by decide +kernel
theorem dX3_measureDistances_18 : decode cX3_measureDistances 18 = .ok (.bipush 6, 2) := by decide +kernel
theorem dX3_measureDistances_20 : decode cX3_measureDistances 20 = .ok (.iastore, 1) := by decide +kernel
theorem dX3_measureDistances_21 : decode cX3_measureDistances 21 = .ok (.iinc 2 1, 3) := by decide +kernel
theorem dX3_measureDistances_24 : decode cX3_measureDistances 24 = .ok (.goto (-22), 3) := by decide +kernel
theorem dX3_measureDistances_27 : decode cX3_measureDistances 27 = .ok (.aload_n 0, 1) := by decide +kernel
theorem dX3_measureDistances_28 : decode cX3_measureDistances 28 = .ok (.getfield 15, 3) := by decide +kernel
theorem dX3_measureDistances_31 : decode cX3_measureDistances 31 = .ok (.iload_n 1, 1) := by decide +kernel
theorem dX3_measureDistances_32 : decode cX3_measureDistances 32 = .ok (.iconst 0, 1) := by decide +kernel
theorem dX3_measureDistances_33 : decode cX3_measureDistances 33 = .ok (.iastore, 1) := by decide +kernel
theorem dX3_measureDistances_34 : decode cX3_measureDistances 34 = .ok (.iconst 1, 1) := by decide +kernel
theorem dX3_measureDistances_35 : decode cX3_measureDistances 35 = .ok (.istore_n 2, 1) := by decide +kernel
theorem dX3_measureDistances_36 : decode cX3_measureDistances 36 = .ok (.iload_n 2, 1) := by decide +kernel
theorem dX3_measureDistances_37 : decode cX3_measureDistances 37 = .ok (.aload_n 0, 1) := by decide +kernel
theorem dX3_measureDistances_38 : decode cX3_measureDistances 38 = .ok (.getfield 21, 3) := by decide +kernel
theorem dX3_measureDistances_41 : decode cX3_measureDistances 41 = .ok (.getfield 54, 3) := by decide +kernel
theorem dX3_measureDistances_44 : decode cX3_measureDistances 44 = .ok (.if_icmp .ge 58, 3) := by decide +kernel
theorem dX3_measureDistances_47 : decode cX3_measureDistances 47 = .ok (.iconst 0, 1) := by decide +kernel
theorem dX3_measureDistances_48 : decode cX3_measureDistances 48 = .ok (.istore_n 3, 1) := by decide +kernel
theorem dX3_measureDistances_49 : decode cX3_measureDistances 49 = .ok (.iload_n 3, 1) := by decide +kernel
theorem dX3_measureDistances_50 : decode cX3_measureDistances 50 = .ok (.aload_n 0, 1) := by decide +kernel
theorem dX3_measureDistances_51 : decode cX3_measureDistances 51 = .ok (.getfield 21, 3) := by decide +kernel
theorem dX3_measureDistances_54 : decode cX3_measureDistances 54 = .ok (.getfield 54, 3) := by decide +kernel
theorem dX3_measureDistances_57 : decode cX3_measureDistances 57 = .ok (.if_icmp .ge 39, 3) := by decide +kernel
theorem dX3_measureDistances_60 : decode cX3_measureDistances 60 = .ok (.aload_n 0, 1) := by decide +kernel
theorem dX3_measureDistances_61 : decode cX3_measureDistances 61 = .ok (.getfield 15, 3) := by decide +kernel
theorem dX3_measureDistances_64 : decode cX3_measureDistances 64 = .ok (.iload_n 3, 1) := by decide +kernel
theorem dX3_measureDistances_65 : decode cX3_measureDistances 65 = .ok (.iaload, 1) := by decide +kernel
theorem dX3_measureDistances_66 : decode cX3_measureDistances 66 = .ok (.bipush 6, 2) := by decide +kernel
theorem dX3_measureDistances_68 : decode cX3_measureDistances 68 = .ok (.if_icmp .ne 22, 3) := by decide +kernel
theorem dX3_measureDistances_71 : decode cX3_measureDistances 71 = .ok (.aload_n 0, 1) := by decide +kernel
theorem dX3_measureDistances_72 : decode cX3_measureDistances 72 = .ok (.iload_n 2, 1) := by decide +kernel
theorem dX3_measureDistances_73 : decode cX3_measureDistances 73 = .ok (.iconst 1, 1) := by decide +kernel
theorem dX3_measureDistances_74 : decode cX3_measureDistances 74 = .ok (.isub, 1) := by decide +kernel
theorem dX3_measureDistances_75 : decode cX3_measureDistances 75 = .ok (.iload_n 3, 1) := by decide +kernel
theorem dX3_measureDistances_76 : decode cX3_measureDistances 76 = .ok (.invokevirtual 84, 3) := by decide +kernel
theorem dX3_measureDistances_79 : decode cX3_measureDistances 79 = .ok (.iconst (-1), 1) := by decide +kernel
theorem dX3_measureDistances_80 : decode cX3_measureDistances 80 = .ok (.if_icmp .eq 10, 3) := by decide +kernel
theorem dX3_measureDistances_83 : decode cX3_measureDistances 83 = .ok (.aload_n 0, 1) := by decide +kernel
theorem dX3_measureDistances_84 : decode cX3_measureDistances 84 = .ok (.getfield 15, 3) := by decide +kernel
theorem dX3_measureDistances_87 : decode cX3_measureDistances 87 = .ok (.iload_n 3, 1) := by decide +kernel
theorem dX3_measureDistances_88 : decode cX3_measureDistances 88 = .ok (.iload_n 2, 1) := by decide +kernel
theorem dX3_measureDistances_89 : decode cX3_measureDistances 89 = .ok (.iastore, 1) := by decide +kernel
theorem dX3_measureDistances_90 : decode cX3_measureDistances 90 = .ok (.iinc 3 1, 3) := by decide +kernel
theorem dX3_measureDistances_93 : decode cX3_measureDistances 93 = .ok (.goto (-44), 3) := by decide +kernel
theorem dX3_measureDistances_96 : decode cX3_measureDistances 96 = .ok (.iinc 2 1, 3) := by decide +kernel
theorem dX3_measureDistances_99 : decode cX3_measureDistances 99 = .ok (.goto (-63), 3) := by decide +kernel
theorem dX3_measureDistances_102 : decode cX3_measureDistances 102 = .ok (.return_, 1) := by decide +kernel
set_option maxRecDepth 20000 in
theorem ggX3_shortestWayRound_X3_firstEnviedAt : GoodIn wsX3_shortestWayRound wsX3_firstEnviedAt := goodIn_r _ [7, 1, 2, 8, 9, 10, 11, 12, 13, 14, 15, 16, 17, 18, 19] (by decide +kernel) (by decide +kernel)
set_option maxRecDepth 20000 in
theorem gX3_shortestWayRound_X3_firstEnviedAt : GoodIn wsX3_shortestWayRound (wsV RX3 84 RX3 yX3_firstEnviedAt wsX3_firstEnviedAt) := goodIn_app (goodIn_of _ (by decide +kernel)) ggX3_shortestWayRound_X3_firstEnviedAt
theorem dX3_shortestWayRound_0 : decode cX3_shortestWayRound 0 = .ok (.iconst 1, 1) := by decide +kernel
theorem dX3_shortestWayRound_1 : decode cX3_shortestWayRound 1 = .ok (.istore_n 2, 1) := by decide +kernel
theorem dX3_shortestWayRound_2 : decode cX3_shortestWayRound 2 = .ok (.iload_n 2, 1) := by decide +kernel
theorem dX3_shortestWayRound_3 : decode cX3_shortestWayRound 3 = .ok (.aload_n 0, 1) := by decide +kernel
theorem dX3_shortestWayRound_4 : decode cX3_shortestWayRound 4 = .ok (.getfield 21, 3) := by decide +kernel
theorem dX3_shortestWayRound_7 : decode cX3_shortestWayRound 7 = .ok (.getfield 54, 3) := by decide +kernel
theorem dX3_shortestWayRound_10 : decode cX3_shortestWayRound 10 = .ok (.if_icmp .ge 23, 3) := by decide +kernel
theorem dX3_shortestWayRound_13 : decode cX3_shortestWayRound 13 = .ok (.aload_n 0, 1) := by decide +kernel
theorem dX3_shortestWayRound_14 : decode cX3_shortestWayRound 14 = .ok (.iload_n 2, 1) := by decide +kernel
theorem dX3_shortestWayRound_15 : decode cX3_shortestWayRound 15 = .ok (.iload_n 1, 1) := by decide +kernel
theorem dX3_shortestWayRound_16 : decode cX3_shortestWayRound 16 = .ok (.invokevirtual 84, 3) := by decide +kernel
theorem dX3_shortestWayRound_19 : decode cX3_shortestWayRound 19 = .ok (.iconst (-1), 1) := by decide +kernel
theorem dX3_shortestWayRound_20 : decode cX3_shortestWayRound 20 = .ok (.if_icmp .eq 7, 3) := by decide +kernel
theorem dX3_shortestWayRound_23 : decode cX3_shortestWayRound 23 = .ok (.iload_n 2, 1) := by decide +kernel
theorem dX3_shortestWayRound_24 : decode cX3_shortestWayRound 24 = .ok (.iconst 1, 1) := by decide +kernel
theorem dX3_shortestWayRound_25 : decode cX3_shortestWayRound 25 = .ok (.iadd, 1) := by decide +kernel
theorem dX3_shortestWayRound_26 : decode cX3_shortestWayRound 26 = .ok (.ireturn, 1) := by decide +kernel
theorem dX3_shortestWayRound_27 : decode cX3_shortestWayRound 27 = .ok (.iinc 2 1, 3) := by decide +kernel
theorem dX3_shortestWayRound_30 : decode cX3_shortestWayRound 30 = .ok (.goto (-28), 3) := by decide +kernel
theorem dX3_shortestWayRound_33 : decode cX3_shortestWayRound 33 = .ok (.iconst (-1), 1) := by decide +kernel
theorem dX3_shortestWayRound_34 : decode cX3_shortestWayRound 34 = .ok (.ireturn, 1) := by decide +kernel
theorem dX3_firstEnviedAt_0 : decode cX3_firstEnviedAt 0 = .ok (.iload_n 2, 1) := by decide +kernel
theorem dX3_firstEnviedAt_1 : decode cX3_firstEnviedAt 1 = .ok (.bipush 6, 2) := by decide +kernel
theorem dX3_firstEnviedAt_3 : decode cX3_firstEnviedAt 3 = .ok (.imul, 1) := by decide +kernel
theorem dX3_firstEnviedAt_4 : decode cX3_firstEnviedAt 4 = .ok (.istore_n 3, 1) := by decide +kernel
theorem dX3_firstEnviedAt_5 : decode cX3_firstEnviedAt 5 = .ok (.iconst 0, 1) := by decide +kernel
theorem dX3_firstEnviedAt_6 : decode cX3_firstEnviedAt 6 = .ok (.istore 4, 2) := by decide +kernel
theorem dX3_firstEnviedAt_8 : decode cX3_firstEnviedAt 8 = .ok (.iload 4, 2) := by decide +kernel
theorem dX3_firstEnviedAt_10 : decode cX3_firstEnviedAt 10 = .ok (.aload_n 0, 1) := by decide +kernel
theorem dX3_firstEnviedAt_11 : decode cX3_firstEnviedAt 11 = .ok (.getfield 21, 3) := by decide +kernel
theorem dX3_firstEnviedAt_14 : decode cX3_firstEnviedAt 14 = .ok (.getfield 54, 3) := by decide +kernel
theorem dX3_firstEnviedAt_17 : decode cX3_firstEnviedAt 17 = .ok (.if_icmp .ge 43, 3) := by decide +kernel
theorem dX3_firstEnviedAt_20 : decode cX3_firstEnviedAt 20 = .ok (.aload_n 0, 1) := by decide +kernel
theorem dX3_firstEnviedAt_21 : decode cX3_firstEnviedAt 21 = .ok (.getfield 15, 3) := by decide +kernel
theorem dX3_firstEnviedAt_24 : decode cX3_firstEnviedAt 24 = .ok (.iload 4, 2) := by decide +kernel
theorem dX3_firstEnviedAt_26 : decode cX3_firstEnviedAt 26 = .ok (.iaload, 1) := by decide +kernel
theorem dX3_firstEnviedAt_27 : decode cX3_firstEnviedAt 27 = .ok (.iload_n 1, 1) := by decide +kernel
theorem dX3_firstEnviedAt_28 : decode cX3_firstEnviedAt 28 = .ok (.if_icmp .ne 26, 3) := by decide +kernel
theorem dX3_firstEnviedAt_31 : decode cX3_firstEnviedAt 31 = .ok (.aload_n 0, 1) := by decide +kernel
theorem dX3_firstEnviedAt_32 : decode cX3_firstEnviedAt 32 = .ok (.getfield 18, 3) := by decide +kernel
theorem dX3_firstEnviedAt_35 : decode cX3_firstEnviedAt 35 = .ok (.iload_n 3, 1) := by decide +kernel
theorem dX3_firstEnviedAt_36 : decode cX3_firstEnviedAt 36 = .ok (.iload 4, 2) := by decide +kernel
theorem dX3_firstEnviedAt_38 : decode cX3_firstEnviedAt 38 = .ok (.iadd, 1) := by decide +kernel
theorem dX3_firstEnviedAt_39 : decode cX3_firstEnviedAt 39 = .ok (.iaload, 1) := by decide +kernel
theorem dX3_firstEnviedAt_40 : decode cX3_firstEnviedAt 40 = .ok (.aload_n 0, 1) := by decide +kernel
theorem dX3_firstEnviedAt_41 : decode cX3_firstEnviedAt 41 = .ok (.getfield 18, 3) := by decide +kernel
theorem dX3_firstEnviedAt_44 : decode cX3_firstEnviedAt 44 = .ok (.iload_n 3, 1) := by decide +kernel
theorem dX3_firstEnviedAt_45 : decode cX3_firstEnviedAt 45 = .ok (.iload_n 2, 1) := by decide +kernel
theorem dX3_firstEnviedAt_46 : decode cX3_firstEnviedAt 46 = .ok (.iadd, 1) := by decide +kernel
theorem dX3_firstEnviedAt_47 : decode cX3_firstEnviedAt 47 = .ok (.iaload, 1) := by decide +kernel
theorem dX3_firstEnviedAt_48 : decode cX3_firstEnviedAt 48 = .ok (.if_icmp .le 6, 3) := by decide +kernel
theorem dX3_firstEnviedAt_51 : decode cX3_firstEnviedAt 51 = .ok (.iload 4, 2) := by decide +kernel
theorem dX3_firstEnviedAt_53 : decode cX3_firstEnviedAt 53 = .ok (.ireturn, 1) := by decide +kernel
theorem dX3_firstEnviedAt_54 : decode cX3_firstEnviedAt 54 = .ok (.iinc 4 1, 3) := by decide +kernel
theorem dX3_firstEnviedAt_57 : decode cX3_firstEnviedAt 57 = .ok (.goto (-49), 3) := by decide +kernel
theorem dX3_firstEnviedAt_60 : decode cX3_firstEnviedAt 60 = .ok (.iconst (-1), 1) := by decide +kernel
theorem dX3_firstEnviedAt_61 : decode cX3_firstEnviedAt 61 = .ok (.ireturn, 1) := by decide +kernel
set_option maxRecDepth 20000 in
theorem ggX3_rotateThrough_X3_findCycle : GoodIn wsX3_rotateThrough wsX3_findCycle := goodIn_r _ [8, 9, 10, 11, 12, 7, 13, 1, 14, 15, 3, 16, 17, 18, 19, 20, 21, 22, 23, 24, 25, 26, 27, 28, 29, 30, 31, 32, 33, 34, 35, 40, 41, 42, 43, 44, 45, 46, 47, 48, 49] (by decide +kernel) (by decide +kernel)
set_option maxRecDepth 20000 in
theorem gX3_rotateThrough_X3_findCycle : GoodIn wsX3_rotateThrough (wsV RX3 87 RX3 yX3_findCycle wsX3_findCycle) := goodIn_app (goodIn_of _ (by decide +kernel)) ggX3_rotateThrough_X3_findCycle
set_option maxRecDepth 20000 in
theorem ggX3_rotateThrough_X3_ownerAfterRotation : GoodIn wsX3_rotateThrough wsX3_ownerAfterRotation := goodIn_r _ [39, 9, 40, 41, 42, 43] (by decide +kernel) (by decide +kernel)
set_option maxRecDepth 20000 in
theorem gX3_rotateThrough_X3_ownerAfterRotation : GoodIn wsX3_rotateThrough (wsV RX3 90 RX3 yX3_ownerAfterRotation wsX3_ownerAfterRotation) := goodIn_app (goodIn_of _ (by decide +kernel)) ggX3_rotateThrough_X3_ownerAfterRotation
theorem dX3_rotateThrough_0 : decode cX3_rotateThrough 0 = .ok (.aload_n 0, 1) := by decide +kernel
theorem dX3_rotateThrough_1 : decode cX3_rotateThrough 1 = .ok (.iload_n 1, 1) := by decide +kernel
theorem dX3_rotateThrough_2 : decode cX3_rotateThrough 2 = .ok (.invokevirtual 87, 3) := by decide +kernel
theorem dX3_rotateThrough_5 : decode cX3_rotateThrough 5 = .ok (.istore_n 2, 1) := by decide +kernel
theorem dX3_rotateThrough_6 : decode cX3_rotateThrough 6 = .ok (.iconst 0, 1) := by decide +kernel
theorem dX3_rotateThrough_7 : decode cX3_rotateThrough 7 = .ok (.istore_n 3, 1) := by decide +kernel
theorem dX3_rotateThrough_8 : decode cX3_rotateThrough 8 = .ok (.iload_n 3, 1) := by decide +kernel
theorem dX3_rotateThrough_9 : decode cX3_rotateThrough 9 = .ok (.aload_n 0, 1) := by decide +kernel
theorem dX3_rotateThrough_10 : decode cX3_rotateThrough 10 = .ok (.getfield 21, 3) := by decide +kernel
theorem dX3_rotateThrough_13 : decode cX3_rotateThrough 13 = .ok (.getfield 42, 3) := by decide +kernel
theorem dX3_rotateThrough_16 : decode cX3_rotateThrough 16 = .ok (.if_icmp .ge 32, 3) := by decide +kernel
theorem dX3_rotateThrough_19 : decode cX3_rotateThrough 19 = .ok (.aload_n 0, 1) := by decide +kernel
theorem dX3_rotateThrough_20 : decode cX3_rotateThrough 20 = .ok (.getfield 21, 3) := by decide +kernel
theorem dX3_rotateThrough_23 : decode cX3_rotateThrough 23 = .ok (.getfield 25, 3) := by decide +kernel
theorem dX3_rotateThrough_26 : decode cX3_rotateThrough 26 = .ok (.iload_n 3, 1) := by decide +kernel
theorem dX3_rotateThrough_27 : decode cX3_rotateThrough 27 = .ok (.aload_n 0, 1) := by decide +kernel
theorem dX3_rotateThrough_28 : decode cX3_rotateThrough 28 = .ok (.aload_n 0, 1) := by decide +kernel
theorem dX3_rotateThrough_29 : decode cX3_rotateThrough 29 = .ok (.getfield 21, 3) := by decide +kernel
theorem dX3_rotateThrough_32 : decode cX3_rotateThrough 32 = .ok (.getfield 25, 3) := by decide +kernel
theorem dX3_rotateThrough_35 : decode cX3_rotateThrough 35 = .ok (.iload_n 3, 1) := by decide +kernel
theorem dX3_rotateThrough_36 : decode cX3_rotateThrough 36 = .ok (.iaload, 1) := by decide +kernel
theorem dX3_rotateThrough_37 : decode cX3_rotateThrough 37 = .ok (.iload_n 2, 1) := by decide +kernel
theorem dX3_rotateThrough_38 : decode cX3_rotateThrough 38 = .ok (.invokevirtual 90, 3) := by decide +kernel
theorem dX3_rotateThrough_41 : decode cX3_rotateThrough 41 = .ok (.iastore, 1) := by decide +kernel
theorem dX3_rotateThrough_42 : decode cX3_rotateThrough 42 = .ok (.iinc 3 1, 3) := by decide +kernel
theorem dX3_rotateThrough_45 : decode cX3_rotateThrough 45 = .ok (.goto (-37), 3) := by decide +kernel
theorem dX3_rotateThrough_48 : decode cX3_rotateThrough 48 = .ok (.iload_n 2, 1) := by decide +kernel
theorem dX3_rotateThrough_49 : decode cX3_rotateThrough 49 = .ok (.ireturn, 1) := by decide +kernel
theorem dX3_ownerAfterRotation_0 : decode cX3_ownerAfterRotation 0 = .ok (.iload_n 2, 1) := by decide +kernel
theorem dX3_ownerAfterRotation_1 : decode cX3_ownerAfterRotation 1 = .ok (.iconst 1, 1) := by decide +kernel
theorem dX3_ownerAfterRotation_2 : decode cX3_ownerAfterRotation 2 = .ok (.isub, 1) := by decide +kernel
theorem dX3_ownerAfterRotation_3 : decode cX3_ownerAfterRotation 3 = .ok (.istore_n 3, 1) := by decide +kernel
theorem dX3_ownerAfterRotation_4 : decode cX3_ownerAfterRotation 4 = .ok (.iconst 0, 1) := by decide +kernel
theorem dX3_ownerAfterRotation_5 : decode cX3_ownerAfterRotation 5 = .ok (.istore 4, 2) := by decide +kernel
theorem dX3_ownerAfterRotation_7 : decode cX3_ownerAfterRotation 7 = .ok (.iload 4, 2) := by decide +kernel
theorem dX3_ownerAfterRotation_9 : decode cX3_ownerAfterRotation 9 = .ok (.iload_n 2, 1) := by decide +kernel
theorem dX3_ownerAfterRotation_10 : decode cX3_ownerAfterRotation 10 = .ok (.if_icmp .ge 30, 3) := by decide +kernel
theorem dX3_ownerAfterRotation_13 : decode cX3_ownerAfterRotation 13 = .ok (.aload_n 0, 1) := by decide +kernel
theorem dX3_ownerAfterRotation_14 : decode cX3_ownerAfterRotation 14 = .ok (.getfield 9, 3) := by decide +kernel
theorem dX3_ownerAfterRotation_17 : decode cX3_ownerAfterRotation 17 = .ok (.iload 4, 2) := by decide +kernel
theorem dX3_ownerAfterRotation_19 : decode cX3_ownerAfterRotation 19 = .ok (.iaload, 1) := by decide +kernel
theorem dX3_ownerAfterRotation_20 : decode cX3_ownerAfterRotation 20 = .ok (.iload_n 1, 1) := by decide +kernel
theorem dX3_ownerAfterRotation_21 : decode cX3_ownerAfterRotation 21 = .ok (.if_icmp .ne 10, 3) := by decide +kernel
theorem dX3_ownerAfterRotation_24 : decode cX3_ownerAfterRotation 24 = .ok (.aload_n 0, 1) := by decide +kernel
theorem dX3_ownerAfterRotation_25 : decode cX3_ownerAfterRotation 25 = .ok (.getfield 9, 3) := by decide +kernel
theorem dX3_ownerAfterRotation_28 : decode cX3_ownerAfterRotation 28 = .ok (.iload_n 3, 1) := by decide +kernel
theorem dX3_ownerAfterRotation_29 : decode cX3_ownerAfterRotation 29 = .ok (.iaload, 1) := by decide +kernel
theorem dX3_ownerAfterRotation_30 : decode cX3_ownerAfterRotation 30 = .ok (.ireturn, 1) := by decide +kernel
theorem dX3_ownerAfterRotation_31 : decode cX3_ownerAfterRotation 31 = .ok (.iload 4, 2) := by decide +kernel
theorem dX3_ownerAfterRotation_33 : decode cX3_ownerAfterRotation 33 = .ok (.istore_n 3, 1) := by decide +kernel
theorem dX3_ownerAfterRotation_34 : decode cX3_ownerAfterRotation 34 = .ok (.iinc 4 1, 3) := by decide +kernel
theorem dX3_ownerAfterRotation_37 : decode cX3_ownerAfterRotation 37 = .ok (.goto (-30), 3) := by decide +kernel
theorem dX3_ownerAfterRotation_40 : decode cX3_ownerAfterRotation 40 = .ok (.iload_n 1, 1) := by decide +kernel
theorem dX3_ownerAfterRotation_41 : decode cX3_ownerAfterRotation 41 = .ok (.ireturn, 1) := by decide +kernel
theorem dX4_init_0 : decode cX4_init 0 = .ok (.aload_n 0, 1) := by decide +kernel
theorem dX4_init_1 : decode cX4_init 1 = .ok (.invokespecial 3, 3) := by decide +kernel
theorem dX4_init_4 : decode cX4_init 4 = .ok (.aload_n 0, 1) := by decide +kernel
theorem dX4_init_5 : decode cX4_init 5 = .ok (.iconst 2, 1) := by decide +kernel
theorem dX4_init_6 : decode cX4_init 6 = .ok (.newarray .boolean, 2) := by decide +kernel
theorem dX4_init_8 : decode cX4_init 8 = .ok (.putfield 9, 3) := by decide +kernel
theorem dX4_init_11 : decode cX4_init 11 = .ok (.aload_n 0, 1) := by decide +kernel
theorem dX4_init_12 : decode cX4_init 12 = .ok (.sipush 192, 3) := by decide +kernel
theorem dX4_init_15 : decode cX4_init 15 = .ok (.newarray .int, 2) := by decide +kernel
theorem dX4_init_17 : decode cX4_init 17 = .ok (.putfield 15, 3) := by decide +kernel
theorem dX4_init_20 : decode cX4_init 20 = .ok (.aload_n 0, 1) := by decide +kernel
theorem dX4_init_21 : decode cX4_init 21 = .ok (.sipush 1152, 3) := by decide +kernel
theorem dX4_init_24 : decode cX4_init 24 = .ok (.newarray .int, 2) := by decide +kernel
theorem dX4_init_26 : decode cX4_init 26 = .ok (.putfield 19, 3) := by decide +kernel
theorem dX4_init_29 : decode cX4_init 29 = .ok (.return_, 1) := by decide +kernel
set_option maxRecDepth 20000 in
theorem ggX4_rememberForUndo_X4_keep : GoodIn wsX4_rememberForUndo wsX4_keep := goodIn_r _ [11, 12, 13, 14, 15, 16, 17, 18, 19, 25, 26, 27, 28, 29, 30, 20, 21, 22, 23, 24] (by decide +kernel) (by decide +kernel)
set_option maxRecDepth 20000 in
theorem gX4_rememberForUndo_X4_keep : GoodIn wsX4_rememberForUndo (wsV RX4 26 RX4 yX4_keep wsX4_keep) := goodIn_app (goodIn_of _ (by decide +kernel)) ggX4_rememberForUndo_X4_keep
theorem dX4_rememberForUndo_0 : decode cX4_rememberForUndo 0 = .ok (.aload_n 0, 1) := by decide +kernel
theorem dX4_rememberForUndo_1 : decode cX4_rememberForUndo 1 = .ok (.aload_n 0, 1) := by decide +kernel
theorem dX4_rememberForUndo_2 : decode cX4_rememberForUndo 2 = .ok (.getfield 22, 3) := by decide +kernel
theorem dX4_rememberForUndo_5 : decode cX4_rememberForUndo 5 = .ok (.aload_n 1, 1) := by decide +kernel
theorem dX4_rememberForUndo_6 : decode cX4_rememberForUndo 6 = .ok (.invokevirtual 26, 3) := by decide +kernel
theorem dX4_rememberForUndo_9 : decode cX4_rememberForUndo 9 = .ok (.aload_n 0, 1) := by decide +kernel
theorem dX4_rememberForUndo_10 : decode cX4_rememberForUndo 10 = .ok (.aload_n 0, 1) := by decide +kernel
theorem dX4_rememberForUndo_11 : decode cX4_rememberForUndo 11 = .ok (.getfield 22, 3) := by decide +kernel
theorem dX4_rememberForUndo_14 : decode cX4_rememberForUndo 14 = .ok (.iconst 1, 1) := by decide +kernel
theorem dX4_rememberForUndo_15 : decode cX4_rememberForUndo 15 = .ok (.iadd, 1) := by decide +kernel
theorem dX4_rememberForUndo_16 : decode cX4_rememberForUndo 16 = .ok (.bipush 6, 2) := by decide +kernel
theorem dX4_rememberForUndo_18 : decode cX4_rememberForUndo 18 = .ok (.if_icmp .ge 12, 3) := by decide +kernel
theorem dX4_rememberForUndo_21 : decode cX4_rememberForUndo 21 = .ok (.aload_n 0, 1) := by decide +kernel
theorem dX4_rememberForUndo_22 : decode cX4_rememberForUndo 22 = .ok (.getfield 22, 3) := by decide +kernel
theorem dX4_rememberForUndo_25 : decode cX4_rememberForUndo 25 = .ok (.iconst 1, 1) := by decide +kernel
theorem dX4_rememberForUndo_26 : decode cX4_rememberForUndo 26 = .ok (.iadd, 1) := by decide +kernel
theorem dX4_rememberForUndo_27 : decode cX4_rememberForUndo 27 = .ok (.goto 4, 3) := by decide +kernel
theorem dX4_rememberForUndo_30 : decode cX4_rememberForUndo 30 = .ok (.iconst 0, 1) := by decide +kernel
theorem dX4_rememberForUndo_31 : decode cX4_rememberForUndo 31 = .ok (.putfield 22, 3) := by decide +kernel
theorem dX4_rememberForUndo_34 : decode cX4_rememberForUndo 34 = .ok (.aload_n 0, 1) := by decide +kernel
theorem dX4_rememberForUndo_35 : decode cX4_rememberForUndo 35 = .ok (.aload_n 0, 1) := by decide +kernel
theorem dX4_rememberForUndo_36 : decode cX4_rememberForUndo 36 = .ok (.getfield 30, 3) := by decide +kernel
theorem dX4_rememberForUndo_39 : decode cX4_rememberForUndo 39 = .ok (.iconst 1, 1) := by decide +kernel
theorem dX4_rememberForUndo_40 : decode cX4_rememberForUndo 40 = .ok (.iadd, 1) := by decide +kernel
theorem dX4_rememberForUndo_41 : decode cX4_rememberForUndo 41 = .ok (.bipush 6, 2) := by decide +kernel
theorem dX4_rememberForUndo_43 : decode cX4_rememberForUndo 43 = .ok (.invokestatic 33, 3) := by decide +kernel
theorem dX4_rememberForUndo_46 : decode cX4_rememberForUndo 46 = .ok (.putfield 30, 3) := by decide +kernel
theorem dX4_rememberForUndo_49 : decode cX4_rememberForUndo 49 = .ok (.return_, 1) := by decide +kernel
theorem dX4_forgetAll_0 : decode cX4_forgetAll 0 = .ok (.aload_n 0, 1) := by decide +kernel
theorem dX4_forgetAll_1 : decode cX4_forgetAll 1 = .ok (.iconst 0, 1) := by decide +kernel
theorem dX4_forgetAll_2 : decode cX4_forgetAll 2 = .ok (.putfield 30, 3) := by decide +kernel
theorem dX4_forgetAll_5 : decode cX4_forgetAll 5 = .ok (.iconst 0, 1) := by decide +kernel
theorem dX4_forgetAll_6 : decode cX4_forgetAll 6 = .ok (.istore_n 1, 1) := by decide +kernel
theorem dX4_forgetAll_7 : decode cX4_forgetAll 7 = .ok (.iload_n 1, 1) := by decide +kernel
theorem dX4_forgetAll_8 : decode cX4_forgetAll 8 = .ok (.iconst 2, 1) := by decide +kernel
theorem dX4_forgetAll_9 : decode cX4_forgetAll 9 = .ok (.if_icmp .ge 16, 3) := by decide +kernel
theorem dX4_forgetAll_12 : decode cX4_forgetAll 12 = .ok (.aload_n 0, 1) := by decide +kernel
theorem dX4_forgetAll_13 : decode cX4_forgetAll 13 = .ok (.getfield 9, 3) := by decide +kernel
theorem dX4_forgetAll_16 : decode cX4_forgetAll 16 = .ok (.iload_n 1, 1) := by decide +kernel
theorem dX4_forgetAll_17 : decode cX4_forgetAll 17 = .ok (.iconst 0, 1) := by decide +kernel
theorem dX4_forgetAll_18 : decode cX4_forgetAll 18 = .ok (.bastore, 1) := by decide +kernel
theorem dX4_forgetAll_19 : decode cX4_forgetAll 19 = .ok (.iinc 1 1, 3) := by decide +kernel
theorem dX4_forgetAll_22 : decode cX4_forgetAll 22 = .ok (.goto (-15), 3) := by decide +kernel
theorem dX4_forgetAll_25 : decode cX4_forgetAll 25 = .ok (.return_, 1) := by decide +kernel
theorem dX4_keep_0 : decode cX4_keep 0 = .ok (.aload_n 2, 1) := by decide +kernel
theorem dX4_keep_1 : decode cX4_keep 1 = .ok (.getfield 42, 3) := by decide +kernel
theorem dX4_keep_4 : decode cX4_keep 4 = .ok (.iconst 0, 1) := by decide +kernel
theorem dX4_keep_5 : decode cX4_keep 5 = .ok (.aload_n 0, 1) := by decide +kernel
theorem dX4_keep_6 : decode cX4_keep 6 = .ok (.getfield 15, 3) := by decide +kernel
theorem dX4_keep_9 : decode cX4_keep 9 = .ok (.iload_n 1, 1) := by decide +kernel
theorem dX4_keep_10 : decode cX4_keep 10 = .ok (.bipush 24, 2) := by decide +kernel
theorem dX4_keep_12 : decode cX4_keep 12 = .ok (.imul, 1) := by decide +kernel
theorem dX4_keep_13 : decode cX4_keep 13 = .ok (.bipush 24, 2) := by decide +kernel
theorem dX4_keep_15 : decode cX4_keep 15 = .ok (.invokestatic 45, 3) := by decide +kernel
theorem dX4_keep_18 : decode cX4_keep 18 = .ok (.aload_n 2, 1) := by decide +kernel
theorem dX4_keep_19 : decode cX4_keep 19 = .ok (.getfield 51, 3) := by decide +kernel
theorem dX4_keep_22 : decode cX4_keep 22 = .ok (.iconst 0, 1) := by decide +kernel
theorem dX4_keep_23 : decode cX4_keep 23 = .ok (.aload_n 0, 1) := by decide +kernel
theorem dX4_keep_24 : decode cX4_keep 24 = .ok (.getfield 19, 3) := by decide +kernel
theorem dX4_keep_27 : decode cX4_keep 27 = .ok (.iload_n 1, 1) := by decide +kernel
theorem dX4_keep_28 : decode cX4_keep 28 = .ok (.sipush 144, 3) := by decide +kernel
theorem dX4_keep_31 : decode cX4_keep 31 = .ok (.imul, 1) := by decide +kernel
theorem dX4_keep_32 : decode cX4_keep 32 = .ok (.sipush 144, 3) := by decide +kernel
theorem dX4_keep_35 : decode cX4_keep 35 = .ok (.invokestatic 45, 3) := by decide +kernel
theorem dX4_keep_38 : decode cX4_keep 38 = .ok (.return_, 1) := by decide +kernel
theorem dX5_init_0 : decode cX5_init 0 = .ok (.aload_n 0, 1) := by decide +kernel
theorem dX5_init_1 : decode cX5_init 1 = .ok (.invokespecial 3, 3) := by decide +kernel
theorem dX5_init_4 : decode cX5_init 4 = .ok (.aload_n 0, 1) := by decide +kernel
theorem dX5_init_5 : decode cX5_init 5 = .ok (.aload_n 1, 1) := by decide +kernel
theorem dX5_init_6 : decode cX5_init 6 = .ok (.putfield 9, 3) := by decide +kernel
theorem dX5_init_9 : decode cX5_init 9 = .ok (.return_, 1) := by decide +kernel
set_option maxRecDepth 20000 in
theorem ggX5_readSetup_X5_begin : GoodIn wsX5_readSetup wsX5_begin := goodIn_r _ [9, 10, 11, 12, 13, 14, 15, 8, 16, 17, 18, 19, 20, 4, 21, 22, 23, 127, 128, 129, 130, 131, 132, 133, 140, 141] (by decide +kernel) (by decide +kernel)
set_option maxRecDepth 20000 in
theorem gX5_readSetup_X5_begin : GoodIn wsX5_readSetup (wsV RX5 15 RX5 yX5_begin wsX5_begin) := goodIn_app (goodIn_of _ (by decide +kernel)) ggX5_readSetup_X5_begin
set_option maxRecDepth 20000 in
theorem ggX5_readSetup_X5_takeWord : GoodIn wsX5_readSetup wsX5_takeWord := goodIn_r _ [27, 28, 29, 30, 8, 31, 4, 12, 17, 18, 20, 32, 33, 34, 35, 36, 37, 38, 39, 40, 41, 42, 43, 44, 45, 46, 47, 48, 49, 50, 51, 52, 53, 54, 55, 56, 57, 58, 59, 60, 61, 62, 63, 64, 65, 66, 67, 68, 69, 70, 71, 72, 73, 74, 75, 76, 77, 78, 79, 80, 81, 82, 83, 84, 10, 11, 13, 14, 15, 16, 19, 21, 22, 23, 127, 128, 129, 130, 131, 132, 133, 140, 141, 142, 143, 144, 145] (by decide +kernel) (by decide +kernel)
set_option maxRecDepth 20000 in
theorem gX5_readSetup_X5_takeWord : GoodIn wsX5_readSetup (wsV RX5 20 RX5 yX5_takeWord wsX5_takeWord) := goodIn_app (goodIn_of _ (by decide +kernel)) ggX5_readSetup_X5_takeWord
set_option maxRecDepth 20000 in
theorem ggX5_readSetup_X5_takeNumber : GoodIn wsX5_readSetup wsX5_takeNumber := goodIn_r _ [88, 4, 1, 81, 82, 83, 8, 84, 10, 17, 11, 89, 90, 91, 92, 12, 18, 20, 13, 14, 15, 16, 19, 21, 22, 23, 127, 128, 129, 130, 131, 132, 133, 140, 141] (by decide +kernel) (by decide +kernel)
set_option maxRecDepth 20000 in
theorem gX5_readSetup_X5_takeNumber : GoodIn wsX5_readSetup (wsV RX5 24 RX5 yX5_takeNumber wsX5_takeNumber) := goodIn_app (goodIn_of _ (by decide +kernel)) ggX5_readSetup_X5_takeNumber
set_option maxRecDepth 20000 in
theorem ggX5_readSetup_X5_takeSemicolon : GoodIn wsX5_readSetup wsX5_takeSemicolon := goodIn_r _ [96, 4, 81, 82, 83, 8, 84, 10, 17, 11, 13, 14, 15, 16, 12, 18, 19, 20, 21, 22, 23, 127, 128, 129, 130, 131, 132, 133, 140, 141] (by decide +kernel) (by decide +kernel)
set_option maxRecDepth 20000 in
theorem gX5_readSetup_X5_takeSemicolon : GoodIn wsX5_readSetup (wsV RX5 37 RX5 yX5_takeSemicolon wsX5_takeSemicolon) := goodIn_app (goodIn_of _ (by decide +kernel)) ggX5_readSetup_X5_takeSemicolon
set_option maxRecDepth 20000 in
theorem ggX5_readSetup_X5_readSibling : GoodIn wsX5_readSetup wsX5_readSibling := goodIn_r _ [100, 2, 1, 24, 25, 26, 8, 27, 28, 29, 30, 31, 4, 12, 17, 18, 20, 32, 33, 34, 35, 36, 37, 38, 39, 40, 41, 42, 43, 44, 45, 46, 47, 48, 49, 50, 51, 52, 53, 54, 55, 56, 57, 58, 59, 60, 61, 62, 63, 64, 65, 66, 67, 68, 69, 70, 71, 72, 73, 74, 75, 76, 77, 78, 79, 80, 81, 82, 83, 84, 10, 11, 13, 14, 15, 16, 19, 21, 22, 23, 101, 102, 103, 104, 105, 106, 107, 108, 109, 110, 111, 112, 113, 114, 115, 116, 117, 118, 119, 120, 121, 85, 86, 87, 88, 89, 90, 91, 92, 122, 123, 124, 125, 126, 93, 94, 95, 96, 134, 135, 136, 137, 138, 139, 127, 128, 129, 130, 131, 132, 133, 140, 141, 142, 143, 144, 145] (by decide +kernel) (by decide +kernel)
set_option maxRecDepth 20000 in
theorem gX5_readSetup_X5_readSibling : GoodIn wsX5_readSetup (wsV RX5 44 RX5 yX5_readSibling wsX5_readSibling) := goodIn_app (goodIn_of _ (by decide +kernel)) ggX5_readSetup_X5_readSibling
set_option maxRecDepth 20000 in
theorem ggX5_readSetup_X5_isWord : GoodIn wsX5_readSetup wsX5_isWord := goodIn_r _ [31, 4, 12, 17, 18, 20, 32, 33, 34, 35, 36, 37, 38, 39, 40, 41, 42, 43, 44, 45, 46, 47, 48, 49, 50, 51, 52, 53, 54, 55, 56, 57, 58, 59, 60, 61, 62, 63, 64, 65, 66, 67, 68, 69, 70, 71, 72, 73, 74, 75, 76, 77, 78, 79, 80, 127, 128, 129, 130, 131, 132, 133, 140, 141, 142, 143, 144, 145] (by decide +kernel) (by decide +kernel)
set_option maxRecDepth 20000 in
theorem gX5_readSetup_X5_isWord : GoodIn wsX5_readSetup (wsV RX5 53 RX5 yX5_isWord wsX5_isWord) := goodIn_app (goodIn_of _ (by decide +kernel)) ggX5_readSetup_X5_isWord
set_option maxRecDepth 20000 in
theorem ggX5_readSetup_X5_refuse : GoodIn wsX5_readSetup wsX5_refuse := goodIn_r _ [84, 10, 17, 11, 127, 128, 129, 130, 131, 132, 133] (by decide +kernel) (by decide +kernel)
set_option maxRecDepth 20000 in
theorem gX5_readSetup_X5_refuse : GoodIn wsX5_readSetup (wsV RX5 56 RX5 yX5_refuse wsX5_refuse) := goodIn_app (goodIn_of _ (by decide +kernel)) ggX5_readSetup_X5_refuse
theorem dX5_readSetup_0 : decode cX5_readSetup 0 = .ok (.aload_n 0, 1) := by decide +kernel
theorem dX5_readSetup_1 : decode cX5_readSetup 1 = .ok (.invokevirtual 15, 3) := by decide +kernel
theorem dX5_readSetup_4 : decode cX5_readSetup 4 = .ok (.aload_n 0, 1) := by decide +kernel
theorem dX5_readSetup_5 : decode cX5_readSetup 5 = .ok (.ldc 18, 2) := by decide +kernel
theorem dX5_readSetup_7 : decode cX5_readSetup 7 = .ok (.invokevirtual 20, 3) := by decide +kernel
theorem dX5_readSetup_10 : decode cX5_readSetup 10 = .ok (.ifCond .eq 13, 3) := by decide +kernel
theorem dX5_readSetup_13 : decode cX5_readSetup 13 = .ok (.aload_n 0, 1) := by decide +kernel
theorem dX5_readSetup_14 : decode cX5_readSetup 14 = .ok (.iconst 1, 1) := by decide +kernel
theorem dX5_readSetup_15 : decode cX5_readSetup 15 = .ok (.bipush 24, 2) := by decide +kernel
theorem dX5_readSetup_17 : decode cX5_readSetup 17 = .ok (.invokevirtual 24, 3) := by decide +kernel
theorem dX5_readSetup_20 : decode cX5_readSetup 20 = .ok (.ifCond .ne 5, 3) := by decide +kernel
theorem dX5_readSetup_23 : decode cX5_readSetup 23 = .ok (.iconst 0, 1) := by decide +kernel
theorem dX5_readSetup_24 : decode cX5_readSetup 24 = .ok (.ireturn, 1) := by decide +kernel
theorem dX5_readSetup_25 : decode cX5_readSetup 25 = .ok (.aload_n 1, 1) := by decide +kernel
theorem dX5_readSetup_26 : decode cX5_readSetup 26 = .ok (.aload_n 0, 1) := by decide +kernel
theorem dX5_readSetup_27 : decode cX5_readSetup 27 = .ok (.getfield 28, 3) := by decide +kernel
theorem dX5_readSetup_30 : decode cX5_readSetup 30 = .ok (.putfield 32, 3) := by decide +kernel
theorem dX5_readSetup_33 : decode cX5_readSetup 33 = .ok (.aload_n 0, 1) := by decide +kernel
theorem dX5_readSetup_34 : decode cX5_readSetup 34 = .ok (.invokevirtual 37, 3) := by decide +kernel
theorem dX5_readSetup_37 : decode cX5_readSetup 37 = .ok (.ifCond .ne 5, 3) := by decide +kernel
theorem dX5_readSetup_40 : decode cX5_readSetup 40 = .ok (.iconst 0, 1) := by decide +kernel
theorem dX5_readSetup_41 : decode cX5_readSetup 41 = .ok (.ireturn, 1) := by decide +kernel
theorem dX5_readSetup_42 : decode cX5_readSetup 42 = .ok (.iconst 0, 1) := by decide +kernel
theorem dX5_readSetup_43 : decode cX5_readSetup 43 = .ok (.istore_n 2, 1) := by decide +kernel
theorem dX5_readSetup_44 : decode cX5_readSetup 44 = .ok (.iload_n 2, 1) := by decide +kernel
theorem dX5_readSetup_45 : decode cX5_readSetup 45 = .ok (.bipush 6, 2) := by decide +kernel
theorem dX5_readSetup_47 : decode cX5_readSetup 47 = .ok (.if_icmp .ge 41, 3) := by decide +kernel
theorem dX5_readSetup_50 : decode cX5_readSetup 50 = .ok (.aload_n 1, 1) := by decide +kernel
theorem dX5_readSetup_51 : decode cX5_readSetup 51 = .ok (.iload_n 2, 1) := by decide +kernel
theorem dX5_readSetup_52 : decode cX5_readSetup 52 = .ok (.putfield 41, 3) := by decide +kernel
theorem dX5_readSetup_55 : decode cX5_readSetup 55 = .ok (.aload_n 0, 1) := by decide +kernel
theorem dX5_readSetup_56 : decode cX5_readSetup 56 = .ok (.aload_n 1, 1) := by decide +kernel
theorem dX5_readSetup_57 : decode cX5_readSetup 57 = .ok (.iload_n 2, 1) := by decide +kernel
theorem dX5_readSetup_58 : decode cX5_readSetup 58 = .ok (.invokevirtual 44, 3) := by decide +kernel
theorem dX5_readSetup_61 : decode cX5_readSetup 61 = .ok (.ifCond .ne 5, 3) := by decide +kernel
theorem dX5_readSetup_64 : decode cX5_readSetup 64 = .ok (.iconst 0, 1) := by decide +kernel
theorem dX5_readSetup_65 : decode cX5_readSetup 65 = .ok (.ireturn, 1) := by decide +kernel
theorem dX5_readSetup_66 : decode cX5_readSetup 66 = .ok (.aload_n 1, 1) := by decide +kernel
theorem dX5_readSetup_67 : decode cX5_readSetup 67 = .ok (.iload_n 2, 1) := by decide +kernel
theorem dX5_readSetup_68 : decode cX5_readSetup 68 = .ok (.iconst 1, 1) := by decide +kernel
theorem dX5_readSetup_69 : decode cX5_readSetup 69 = .ok (.iadd, 1) := by decide +kernel
theorem dX5_readSetup_70 : decode cX5_readSetup 70 = .ok (.putfield 41, 3) := by decide +kernel
theorem dX5_readSetup_73 : decode cX5_readSetup 73 = .ok (.aload_n 0, 1) := by decide +kernel
theorem dX5_readSetup_74 : decode cX5_readSetup 74 = .ok (.getfield 48, 3) := by decide +kernel
theorem dX5_readSetup_77 : decode cX5_readSetup 77 = .ok (.ifCond .ne 5, 3) := by decide +kernel
theorem dX5_readSetup_80 : decode cX5_readSetup 80 = .ok (.iconst 1, 1) := by decide +kernel
theorem dX5_readSetup_81 : decode cX5_readSetup 81 = .ok (.ireturn, 1) := by decide +kernel
theorem dX5_readSetup_82 : decode cX5_readSetup 82 = .ok (.iinc 2 1, 3) := by decide +kernel
theorem dX5_readSetup_85 : decode cX5_readSetup 85 = .ok (.goto (-41), 3) := by decide +kernel
theorem dX5_readSetup_88 : decode cX5_readSetup 88 = .ok (.aload_n 0, 1) := by decide +kernel
theorem dX5_readSetup_89 : decode cX5_readSetup 89 = .ok (.aload_n 0, 1) := by decide +kernel
theorem dX5_readSetup_90 : decode cX5_readSetup 90 = .ok (.ldc 51, 2) := by decide +kernel
theorem dX5_readSetup_92 : decode cX5_readSetup 92 = .ok (.invokevirtual 53, 3) := by decide +kernel
theorem dX5_readSetup_95 : decode cX5_readSetup 95 = .ok (.ifCond .eq 7, 3) := by decide +kernel
theorem dX5_readSetup_98 : decode cX5_readSetup 98 = .ok (.iconst 4, 1) := by decide +kernel
theorem dX5_readSetup_99 : decode cX5_readSetup 99 = .ok (.goto 4, 3) := by decide +kernel
theorem dX5_readSetup_102 : decode cX5_readSetup 102 = .ok (.iconst 1, 1) := by decide +kernel
theorem dX5_readSetup_103 : decode cX5_readSetup 103 = .ok (.invokevirtual 56, 3) := by decide +kernel
theorem dX5_readSetup_106 : decode cX5_readSetup 106 = .ok (.ireturn, 1) := by decide +kernel
set_option maxRecDepth 20000 in
theorem ggX5_readSibling_X5_takeWord : GoodIn wsX5_readSibling wsX5_takeWord := goodIn_r _ [7, 8, 9, 10, 6, 11, 12, 13, 14, 15, 16, 17, 18, 19, 20, 21, 22, 23, 24, 25, 26, 27, 28, 29, 30, 31, 32, 33, 34, 35, 36, 37, 38, 39, 40, 41, 42, 43, 44, 45, 46, 47, 48, 49, 50, 51, 52, 53, 54, 55, 56, 57, 58, 59, 60, 61, 62, 63, 64, 65, 66, 67, 68, 69, 70, 71, 72, 73, 74, 75, 76, 77, 78, 79, 124, 125, 126, 127, 128, 129, 130, 131, 132, 133, 134, 135, 136] (by decide +kernel) (by decide +kernel)
set_option maxRecDepth 20000 in
theorem gX5_readSibling_X5_takeWord : GoodIn wsX5_readSibling (wsV RX5 20 RX5 yX5_takeWord wsX5_takeWord) := goodIn_app (goodIn_of _ (by decide +kernel)) ggX5_readSibling_X5_takeWord
set_option maxRecDepth 20000 in
theorem ggX5_readSibling_X5_takeNewName : GoodIn wsX5_readSibling wsX5_takeNewName := goodIn_r _ [83, 12, 13, 14, 15, 66, 67, 68, 6, 69, 70, 71, 84, 85, 86, 87, 88, 89, 90, 91, 92, 93, 94, 95, 96, 97, 98, 99, 100, 72, 73, 74, 75, 76, 16, 77, 78, 79, 124, 125, 126, 127, 128, 129, 130, 118, 119, 120, 121, 122, 123, 131, 132] (by decide +kernel) (by decide +kernel)
set_option maxRecDepth 20000 in
theorem gX5_readSibling_X5_takeNewName : GoodIn wsX5_readSibling (wsV RX5 60 RX5 yX5_takeNewName wsX5_takeNewName) := goodIn_app (goodIn_of _ (by decide +kernel)) ggX5_readSibling_X5_takeNewName
set_option maxRecDepth 20000 in
theorem ggX5_readSibling_X5_takeNumber : GoodIn wsX5_readSibling wsX5_takeNumber := goodIn_r _ [104, 12, 2, 66, 67, 68, 6, 69, 70, 14, 71, 105, 106, 107, 108, 13, 15, 16, 72, 73, 74, 75, 76, 77, 78, 79, 124, 125, 126, 127, 128, 129, 130, 131, 132] (by decide +kernel) (by decide +kernel)
set_option maxRecDepth 20000 in
theorem gX5_readSibling_X5_takeNumber : GoodIn wsX5_readSibling (wsV RX5 24 RX5 yX5_takeNumber wsX5_takeNumber) := goodIn_app (goodIn_of _ (by decide +kernel)) ggX5_readSibling_X5_takeNumber
set_option maxRecDepth 20000 in
theorem ggX5_readSibling_X1_putValue : GoodIn wsX5_readSibling wsX1_putValue := goodIn_r _ [112, 113, 118, 119, 120, 121, 122, 123] (by decide +kernel) (by decide +kernel)
set_option maxRecDepth 20000 in
theorem gX5_readSibling_X1_putValue : GoodIn wsX5_readSibling (wsV RX5 63 RX1 yX1_putValue wsX1_putValue) := goodIn_app (goodIn_of _ (by decide +kernel)) ggX5_readSibling_X1_putValue
set_option maxRecDepth 20000 in
theorem ggX5_readSibling_X5_takeSemicolon : GoodIn wsX5_readSibling wsX5_takeSemicolon := goodIn_r _ [117, 12, 66, 67, 68, 6, 69, 70, 14, 71, 72, 73, 74, 75, 13, 15, 76, 16, 77, 78, 79, 124, 125, 126, 127, 128, 129, 130, 131, 132] (by decide +kernel) (by decide +kernel)
set_option maxRecDepth 20000 in
theorem gX5_readSibling_X5_takeSemicolon : GoodIn wsX5_readSibling (wsV RX5 37 RX5 yX5_takeSemicolon wsX5_takeSemicolon) := goodIn_app (goodIn_of _ (by decide +kernel)) ggX5_readSibling_X5_takeSemicolon
theorem dX5_readSibling_0 : decode cX5_readSibling 0 = .ok (.aload_n 0, 1) := by decide +kernel
theorem dX5_readSibling_1 : decode cX5_readSibling 1 = .ok (.ldc 51, 2) := by decide +kernel
theorem dX5_readSibling_3 : decode cX5_readSibling 3 = .ok (.invokevirtual 20, 3) := by decide +kernel
theorem dX5_readSibling_6 : decode cX5_readSibling 6 = .ok (.ifCond .eq 12, 3) := by decide +kernel
theorem dX5_readSibling_9 : decode cX5_readSibling 9 = .ok (.aload_n 0, 1) := by decide +kernel
theorem dX5_readSibling_10 : decode cX5_readSibling 10 = .ok (.aload_n 1, 1) := by decide +kernel
theorem dX5_readSibling_11 : decode cX5_readSibling 11 = .ok (.iload_n 2, 1) := by decide +kernel
theorem dX5_readSibling_12 : decode cX5_readSibling 12 = .ok (.invokevirtual 60, 3) := by decide +kernel
theorem dX5_readSibling_15 : decode cX5_readSibling 15 = .ok (.ifCond .ne 5, 3) := by decide +kernel
theorem dX5_readSibling_18 : decode cX5_readSibling 18 = .ok (.iconst 0, 1) := by decide +kernel
theorem dX5_readSibling_19 : decode cX5_readSibling 19 = .ok (.ireturn, 1) := by decide +kernel
theorem dX5_readSibling_20 : decode cX5_readSibling 20 = .ok (.iconst 0, 1) := by decide +kernel
theorem dX5_readSibling_21 : decode cX5_readSibling 21 = .ok (.istore_n 3, 1) := by decide +kernel
theorem dX5_readSibling_22 : decode cX5_readSibling 22 = .ok (.iload_n 3, 1) := by decide +kernel
theorem dX5_readSibling_23 : decode cX5_readSibling 23 = .ok (.aload_n 1, 1) := by decide +kernel
theorem dX5_readSibling_24 : decode cX5_readSibling 24 = .ok (.getfield 32, 3) := by decide +kernel
theorem dX5_readSibling_27 : decode cX5_readSibling 27 = .ok (.if_icmp .ge 31, 3) := by decide +kernel
theorem dX5_readSibling_30 : decode cX5_readSibling 30 = .ok (.aload_n 0, 1) := by decide +kernel
theorem dX5_readSibling_31 : decode cX5_readSibling 31 = .ok (.iconst 0, 1) := by decide +kernel
theorem dX5_readSibling_32 : decode cX5_readSibling 32 = .ok (.bipush 9, 2) := by decide +kernel
theorem dX5_readSibling_34 : decode cX5_readSibling 34 = .ok (.invokevirtual 24, 3) := by decide +kernel
theorem dX5_readSibling_37 : decode cX5_readSibling 37 = .ok (.ifCond .ne 5, 3) := by decide +kernel
theorem dX5_readSibling_40 : decode cX5_readSibling 40 = .ok (.iconst 0, 1) := by decide +kernel
theorem dX5_readSibling_41 : decode cX5_readSibling 41 = .ok (.ireturn, 1) := by decide +kernel
theorem dX5_readSibling_42 : decode cX5_readSibling 42 = .ok (.aload_n 1, 1) := by decide +kernel
theorem dX5_readSibling_43 : decode cX5_readSibling 43 = .ok (.iload_n 2, 1) := by decide +kernel
theorem dX5_readSibling_44 : decode cX5_readSibling 44 = .ok (.iload_n 3, 1) := by decide +kernel
theorem dX5_readSibling_45 : decode cX5_readSibling 45 = .ok (.aload_n 0, 1) := by decide +kernel
theorem dX5_readSibling_46 : decode cX5_readSibling 46 = .ok (.getfield 28, 3) := by decide +kernel
theorem dX5_readSibling_49 : decode cX5_readSibling 49 = .ok (.invokevirtual 63, 3) := by decide +kernel
theorem dX5_readSibling_52 : decode cX5_readSibling 52 = .ok (.iinc 3 1, 3) := by decide +kernel
theorem dX5_readSibling_55 : decode cX5_readSibling 55 = .ok (.goto (-33), 3) := by decide +kernel
theorem dX5_readSibling_58 : decode cX5_readSibling 58 = .ok (.aload_n 0, 1) := by decide +kernel
theorem dX5_readSibling_59 : decode cX5_readSibling 59 = .ok (.invokevirtual 37, 3) := by decide +kernel
theorem dX5_readSibling_62 : decode cX5_readSibling 62 = .ok (.ireturn, 1) := by decide +kernel
theorem dX5_refuse_0 : decode cX5_refuse 0 = .ok (.aload_n 0, 1) := by decide +kernel
theorem dX5_refuse_1 : decode cX5_refuse 1 = .ok (.iload_n 1, 1) := by decide +kernel
theorem dX5_refuse_2 : decode cX5_refuse 2 = .ok (.putfield 118, 3) := by decide +kernel
theorem dX5_refuse_5 : decode cX5_refuse 5 = .ok (.aload_n 0, 1) := by decide +kernel
theorem dX5_refuse_6 : decode cX5_refuse 6 = .ok (.aload_n 0, 1) := by decide +kernel
theorem dX5_refuse_7 : decode cX5_refuse 7 = .ok (.getfield 121, 3) := by decide +kernel
theorem dX5_refuse_10 : decode cX5_refuse 10 = .ok (.putfield 124, 3) := by decide +kernel
theorem dX5_refuse_13 : decode cX5_refuse 13 = .ok (.iconst 0, 1) := by decide +kernel
theorem dX5_refuse_14 : decode cX5_refuse 14 = .ok (.ireturn, 1) := by decide +kernel
set_option maxRecDepth 20000 in
theorem ggX5_takeWord_X5_isWord : GoodIn wsX5_takeWord wsX5_isWord := goodIn_r _ [5, 6, 7, 8, 9, 10, 11, 12, 13, 14, 15, 16, 17, 18, 19, 20, 21, 22, 23, 24, 25, 26, 27, 28, 29, 30, 31, 32, 33, 34, 35, 36, 37, 38, 39, 40, 41, 42, 43, 44, 45, 46, 47, 48, 49, 50, 51, 52, 53, 54, 55, 56, 57, 58, 59, 74, 75, 76, 77, 78, 79, 80, 81, 82, 83, 84, 85, 86] (by decide +kernel) (by decide +kernel)
set_option maxRecDepth 20000 in
theorem gX5_takeWord_X5_isWord : GoodIn wsX5_takeWord (wsV RX5 53 RX5 yX5_isWord wsX5_isWord) := goodIn_app (goodIn_of _ (by decide +kernel)) ggX5_takeWord_X5_isWord
set_option maxRecDepth 20000 in
theorem ggX5_takeWord_X5_refuse : GoodIn wsX5_takeWord wsX5_refuse := goodIn_r _ [63, 64, 8, 65, 74, 75, 76, 77, 78, 79, 80] (by decide +kernel) (by decide +kernel)
set_option maxRecDepth 20000 in
theorem gX5_takeWord_X5_refuse : GoodIn wsX5_takeWord (wsV RX5 56 RX5 yX5_refuse wsX5_refuse) := goodIn_app (goodIn_of _ (by decide +kernel)) ggX5_takeWord_X5_refuse
set_option maxRecDepth 20000 in
theorem ggX5_takeWord_X5_advance : GoodIn wsX5_takeWord wsX5_advance := goodIn_r _ [69, 7, 8, 9, 70, 10, 6, 71, 72, 4, 73, 74, 75, 76, 77, 78, 79, 80, 81, 82] (by decide +kernel) (by decide +kernel)
set_option maxRecDepth 20000 in
theorem gX5_takeWord_X5_advance : GoodIn wsX5_takeWord (wsV RX5 84 RX5 yX5_advance wsX5_advance) := goodIn_app (goodIn_of _ (by decide +kernel)) ggX5_takeWord_X5_advance
theorem dX5_takeWord_0 : decode cX5_takeWord 0 = .ok (.aload_n 0, 1) := by decide +kernel
theorem dX5_takeWord_1 : decode cX5_takeWord 1 = .ok (.aload_n 1, 1) := by decide +kernel
theorem dX5_takeWord_2 : decode cX5_takeWord 2 = .ok (.invokevirtual 53, 3) := by decide +kernel
theorem dX5_takeWord_5 : decode cX5_takeWord 5 = .ok (.ifCond .ne 9, 3) := by decide +kernel
theorem dX5_takeWord_8 : decode cX5_takeWord 8 = .ok (.aload_n 0, 1) := by decide +kernel
theorem dX5_takeWord_9 : decode cX5_takeWord 9 = .ok (.iconst 1, 1) := by decide +kernel
theorem dX5_takeWord_10 : decode cX5_takeWord 10 = .ok (.invokevirtual 56, 3) := by decide +kernel
theorem dX5_takeWord_13 : decode cX5_takeWord 13 = .ok (.ireturn, 1) := by decide +kernel
theorem dX5_takeWord_14 : decode cX5_takeWord 14 = .ok (.aload_n 0, 1) := by decide +kernel
theorem dX5_takeWord_15 : decode cX5_takeWord 15 = .ok (.invokevirtual 84, 3) := by decide +kernel
theorem dX5_takeWord_18 : decode cX5_takeWord 18 = .ok (.iconst 1, 1) := by decide +kernel
theorem dX5_takeWord_19 : decode cX5_takeWord 19 = .ok (.ireturn, 1) := by decide +kernel
set_option maxRecDepth 20000 in
theorem ggX5_takeSemicolon_X5_refuse : GoodIn wsX5_takeSemicolon wsX5_refuse := goodIn_r _ [6, 7, 8, 9, 21, 22, 23, 24, 25, 26, 27] (by decide +kernel) (by decide +kernel)
set_option maxRecDepth 20000 in
theorem gX5_takeSemicolon_X5_refuse : GoodIn wsX5_takeSemicolon (wsV RX5 56 RX5 yX5_refuse wsX5_refuse) := goodIn_app (goodIn_of _ (by decide +kernel)) ggX5_takeSemicolon_X5_refuse
set_option maxRecDepth 20000 in
theorem ggX5_takeSemicolon_X5_advance : GoodIn wsX5_takeSemicolon wsX5_advance := goodIn_r _ [13, 14, 8, 15, 16, 17, 1, 18, 19, 5, 20, 21, 22, 23, 24, 25, 26, 27, 28, 29] (by decide +kernel) (by decide +kernel)
set_option maxRecDepth 20000 in
theorem gX5_takeSemicolon_X5_advance : GoodIn wsX5_takeSemicolon (wsV RX5 84 RX5 yX5_advance wsX5_advance) := goodIn_app (goodIn_of _ (by decide +kernel)) ggX5_takeSemicolon_X5_advance
theorem dX5_takeSemicolon_0 : decode cX5_takeSemicolon 0 = .ok (.aload_n 0, 1) := by decide +kernel
theorem dX5_takeSemicolon_1 : decode cX5_takeSemicolon 1 = .ok (.getfield 48, 3) := by decide +kernel
theorem dX5_takeSemicolon_4 : decode cX5_takeSemicolon 4 = .ok (.iconst 3, 1) := by decide +kernel
theorem dX5_takeSemicolon_5 : decode cX5_takeSemicolon 5 = .ok (.if_icmp .eq 9, 3) := by decide +kernel
theorem dX5_takeSemicolon_8 : decode cX5_takeSemicolon 8 = .ok (.aload_n 0, 1) := by decide +kernel
theorem dX5_takeSemicolon_9 : decode cX5_takeSemicolon 9 = .ok (.iconst 1, 1) := by decide +kernel
theorem dX5_takeSemicolon_10 : decode cX5_takeSemicolon 10 = .ok (.invokevirtual 56, 3) := by decide +kernel
theorem dX5_takeSemicolon_13 : decode cX5_takeSemicolon 13 = .ok (.ireturn, 1) := by decide +kernel
theorem dX5_takeSemicolon_14 : decode cX5_takeSemicolon 14 = .ok (.aload_n 0, 1) := by decide +kernel
theorem dX5_takeSemicolon_15 : decode cX5_takeSemicolon 15 = .ok (.invokevirtual 84, 3) := by decide +kernel
theorem dX5_takeSemicolon_18 : decode cX5_takeSemicolon 18 = .ok (.iconst 1, 1) := by decide +kernel
theorem dX5_takeSemicolon_19 : decode cX5_takeSemicolon 19 = .ok (.ireturn, 1) := by decide +kernel
set_option maxRecDepth 20000 in
theorem ggX5_takeNumber_X5_refuse : GoodIn wsX5_takeNumber wsX5_refuse := goodIn_r _ [7, 8, 9, 10, 26, 27, 28, 29, 30, 31, 32] (by decide +kernel) (by decide +kernel)
set_option maxRecDepth 20000 in
theorem gX5_takeNumber_X5_refuse : GoodIn wsX5_takeNumber (wsV RX5 56 RX5 yX5_refuse wsX5_refuse) := goodIn_app (goodIn_of _ (by decide +kernel)) ggX5_takeNumber_X5_refuse
set_option maxRecDepth 20000 in
theorem ggX5_takeNumber_X5_numberOfToken : GoodIn wsX5_takeNumber wsX5_numberOfToken := goodIn_r _ [14, 9, 15, 16, 17, 26, 27, 28, 29, 30, 31, 32, 33, 34] (by decide +kernel) (by decide +kernel)
set_option maxRecDepth 20000 in
theorem gX5_takeNumber_X5_numberOfToken : GoodIn wsX5_takeNumber (wsV RX5 127 RX5 yX5_numberOfToken wsX5_numberOfToken) := goodIn_app (goodIn_of _ (by decide +kernel)) ggX5_takeNumber_X5_numberOfToken
set_option maxRecDepth 20000 in
theorem ggX5_takeNumber_X5_advance : GoodIn wsX5_takeNumber wsX5_advance := goodIn_r _ [21, 15, 9, 16, 22, 17, 1, 23, 24, 6, 25, 26, 27, 28, 29, 30, 31, 32, 33, 34] (by decide +kernel) (by decide +kernel)
set_option maxRecDepth 20000 in
theorem gX5_takeNumber_X5_advance : GoodIn wsX5_takeNumber (wsV RX5 84 RX5 yX5_advance wsX5_advance) := goodIn_app (goodIn_of _ (by decide +kernel)) ggX5_takeNumber_X5_advance
theorem dX5_takeNumber_0 : decode cX5_takeNumber 0 = .ok (.aload_n 0, 1) := by decide +kernel
theorem dX5_takeNumber_1 : decode cX5_takeNumber 1 = .ok (.getfield 48, 3) := by decide +kernel
theorem dX5_takeNumber_4 : decode cX5_takeNumber 4 = .ok (.iconst 2, 1) := by decide +kernel
theorem dX5_takeNumber_5 : decode cX5_takeNumber 5 = .ok (.if_icmp .eq 9, 3) := by decide +kernel
theorem dX5_takeNumber_8 : decode cX5_takeNumber 8 = .ok (.aload_n 0, 1) := by decide +kernel
theorem dX5_takeNumber_9 : decode cX5_takeNumber 9 = .ok (.iconst 1, 1) := by decide +kernel
theorem dX5_takeNumber_10 : decode cX5_takeNumber 10 = .ok (.invokevirtual 56, 3) := by decide +kernel
theorem dX5_takeNumber_13 : decode cX5_takeNumber 13 = .ok (.ireturn, 1) := by decide +kernel
theorem dX5_takeNumber_14 : decode cX5_takeNumber 14 = .ok (.aload_n 0, 1) := by decide +kernel
theorem dX5_takeNumber_15 : decode cX5_takeNumber 15 = .ok (.aload_n 0, 1) := by decide +kernel
theorem dX5_takeNumber_16 : decode cX5_takeNumber 16 = .ok (.invokevirtual 127, 3) := by decide +kernel
theorem dX5_takeNumber_19 : decode cX5_takeNumber 19 = .ok (.putfield 28, 3) := by decide +kernel
theorem dX5_takeNumber_22 : decode cX5_takeNumber 22 = .ok (.aload_n 0, 1) := by decide +kernel
theorem dX5_takeNumber_23 : decode cX5_takeNumber 23 = .ok (.getfield 28, 3) := by decide +kernel
theorem dX5_takeNumber_26 : decode cX5_takeNumber 26 = .ok (.iload_n 1, 1) := by decide +kernel
theorem dX5_takeNumber_27 : decode cX5_takeNumber 27 = .ok (.if_icmp .lt 11, 3) := by decide +kernel
theorem dX5_takeNumber_30 : decode cX5_takeNumber 30 = .ok (.aload_n 0, 1) := by decide +kernel
theorem dX5_takeNumber_31 : decode cX5_takeNumber 31 = .ok (.getfield 28, 3) := by decide +kernel
theorem dX5_takeNumber_34 : decode cX5_takeNumber 34 = .ok (.iload_n 2, 1) := by decide +kernel
theorem dX5_takeNumber_35 : decode cX5_takeNumber 35 = .ok (.if_icmp .le 9, 3) := by decide +kernel
theorem dX5_takeNumber_38 : decode cX5_takeNumber 38 = .ok (.aload_n 0, 1) := by decide +kernel
theorem dX5_takeNumber_39 : decode cX5_takeNumber 39 = .ok (.iconst 2, 1) := by decide +kernel
theorem dX5_takeNumber_40 : decode cX5_takeNumber 40 = .ok (.invokevirtual 56, 3) := by decide +kernel
theorem dX5_takeNumber_43 : decode cX5_takeNumber 43 = .ok (.ireturn, 1) := by decide +kernel
theorem dX5_takeNumber_44 : decode cX5_takeNumber 44 = .ok (.aload_n 0, 1) := by decide +kernel
theorem dX5_takeNumber_45 : decode cX5_takeNumber 45 = .ok (.invokevirtual 84, 3) := by decide +kernel
theorem dX5_takeNumber_48 : decode cX5_takeNumber 48 = .ok (.iconst 1, 1) := by decide +kernel
theorem dX5_takeNumber_49 : decode cX5_takeNumber 49 = .ok (.ireturn, 1) := by decide +kernel
set_option maxRecDepth 20000 in
theorem ggX5_takeNewName_X5_refuse : GoodIn wsX5_takeNewName wsX5_refuse := goodIn_r _ [9, 10, 3, 11, 38, 39, 40, 41, 42, 43, 44] (by decide +kernel) (by decide +kernel)
set_option maxRecDepth 20000 in
theorem gX5_takeNewName_X5_refuse : GoodIn wsX5_takeNewName (wsV RX5 56 RX5 yX5_refuse wsX5_refuse) := goodIn_app (goodIn_of _ (by decide +kernel)) ggX5_takeNewName_X5_refuse
set_option maxRecDepth 20000 in
theorem ggX5_takeNewName_X1_findName : GoodIn wsX5_takeNewName wsX1_findName := goodIn_r _ [16, 17, 18, 19, 20, 15, 21, 22, 23, 24, 45, 46, 47, 48, 49, 50, 51, 52] (by decide +kernel) (by decide +kernel)
set_option maxRecDepth 20000 in
theorem gX5_takeNewName_X1_findName : GoodIn wsX5_takeNewName (wsV RX5 133 RX1 yX1_findName wsX1_findName) := goodIn_app (goodIn_of _ (by decide +kernel)) ggX5_takeNewName_X1_findName
set_option maxRecDepth 20000 in
theorem ggX5_takeNewName_X1_putName : GoodIn wsX5_takeNewName wsX1_putName := goodIn_r _ [28, 23, 24, 22, 45, 46, 47, 48, 49, 50, 51, 52] (by decide +kernel) (by decide +kernel)
set_option maxRecDepth 20000 in
theorem gX5_takeNewName_X1_putName : GoodIn wsX5_takeNewName (wsV RX5 137 RX1 yX1_putName wsX1_putName) := goodIn_app (goodIn_of _ (by decide +kernel)) ggX5_takeNewName_X1_putName
set_option maxRecDepth 20000 in
theorem ggX5_takeNewName_X5_advance : GoodIn wsX5_takeNewName wsX5_advance := goodIn_r _ [32, 2, 3, 4, 33, 34, 1, 35, 36, 8, 37, 38, 39, 40, 41, 42, 43, 44, 51, 52] (by decide +kernel) (by decide +kernel)
set_option maxRecDepth 20000 in
theorem gX5_takeNewName_X5_advance : GoodIn wsX5_takeNewName (wsV RX5 84 RX5 yX5_advance wsX5_advance) := goodIn_app (goodIn_of _ (by decide +kernel)) ggX5_takeNewName_X5_advance
theorem dX5_takeNewName_0 : decode cX5_takeNewName 0 = .ok (.aload_n 0, 1) := by decide +kernel
theorem dX5_takeNewName_1 : decode cX5_takeNewName 1 = .ok (.getfield 48, 3) := by decide +kernel
theorem dX5_takeNewName_4 : decode cX5_takeNewName 4 = .ok (.iconst 1, 1) := by decide +kernel
theorem dX5_takeNewName_5 : decode cX5_takeNewName 5 = .ok (.if_icmp .eq 9, 3) := by decide +kernel
theorem dX5_takeNewName_8 : decode cX5_takeNewName 8 = .ok (.aload_n 0, 1) := by decide +kernel
theorem dX5_takeNewName_9 : decode cX5_takeNewName 9 = .ok (.iconst 1, 1) := by decide +kernel
theorem dX5_takeNewName_10 : decode cX5_takeNewName 10 = .ok (.invokevirtual 56, 3) := by decide +kernel
theorem dX5_takeNewName_13 : decode cX5_takeNewName 13 = .ok (.ireturn, 1) := by decide +kernel
theorem dX5_takeNewName_14 : decode cX5_takeNewName 14 = .ok (.aload_n 0, 1) := by decide +kernel
theorem dX5_takeNewName_15 : decode cX5_takeNewName 15 = .ok (.getfield 130, 3) := by decide +kernel
theorem dX5_takeNewName_18 : decode cX5_takeNewName 18 = .ok (.aload_n 0, 1) := by decide +kernel
theorem dX5_takeNewName_19 : decode cX5_takeNewName 19 = .ok (.getfield 121, 3) := by decide +kernel
theorem dX5_takeNewName_22 : decode cX5_takeNewName 22 = .ok (.isub, 1) := by decide +kernel
theorem dX5_takeNewName_23 : decode cX5_takeNewName 23 = .ok (.istore_n 3, 1) := by decide +kernel
theorem dX5_takeNewName_24 : decode cX5_takeNewName 24 = .ok (.iload_n 3, 1) := by decide +kernel
theorem dX5_takeNewName_25 : decode cX5_takeNewName 25 = .ok (.bipush 6, 2) := by decide +kernel
theorem dX5_takeNewName_27 : decode cX5_takeNewName 27 = .ok (.if_icmp .gt 20, 3) := by decide +kernel
theorem dX5_takeNewName_30 : decode cX5_takeNewName 30 = .ok (.aload_n 1, 1) := by decide +kernel
theorem dX5_takeNewName_31 : decode cX5_takeNewName 31 = .ok (.aload_n 0, 1) := by decide +kernel
theorem dX5_takeNewName_32 : decode cX5_takeNewName 32 = .ok (.getfield 9, 3) := by decide +kernel
theorem dX5_takeNewName_35 : decode cX5_takeNewName 35 = .ok (.aload_n 0, 1) := by decide +kernel
theorem dX5_takeNewName_36 : decode cX5_takeNewName 36 = .ok (.getfield 121, 3) := by decide +kernel
theorem dX5_takeNewName_39 : decode cX5_takeNewName 39 = .ok (.iload_n 3, 1) := by decide +kernel
theorem dX5_takeNewName_40 : decode cX5_takeNewName 40 = .ok (.invokevirtual 133, 3) := by decide +kernel
theorem dX5_takeNewName_43 : decode cX5_takeNewName 43 = .ok (.iconst (-1), 1) := by decide +kernel
theorem dX5_takeNewName_44 : decode cX5_takeNewName 44 = .ok (.if_icmp .eq 9, 3) := by decide +kernel
theorem dX5_takeNewName_47 : decode cX5_takeNewName 47 = .ok (.aload_n 0, 1) := by decide +kernel
theorem dX5_takeNewName_48 : decode cX5_takeNewName 48 = .ok (.iconst 3, 1) := by decide +kernel
theorem dX5_takeNewName_49 : decode cX5_takeNewName 49 = .ok (.invokevirtual 56, 3) := by decide +kernel
theorem dX5_takeNewName_52 : decode cX5_takeNewName 52 = .ok (.ireturn, 1) := by decide +kernel
theorem dX5_takeNewName_53 : decode cX5_takeNewName 53 = .ok (.aload_n 1, 1) := by decide +kernel
theorem dX5_takeNewName_54 : decode cX5_takeNewName 54 = .ok (.iload_n 2, 1) := by decide +kernel
theorem dX5_takeNewName_55 : decode cX5_takeNewName 55 = .ok (.aload_n 0, 1) := by decide +kernel
theorem dX5_takeNewName_56 : decode cX5_takeNewName 56 = .ok (.getfield 9, 3) := by decide +kernel
theorem dX5_takeNewName_59 : decode cX5_takeNewName 59 = .ok (.aload_n 0, 1) := by decide +kernel
theorem dX5_takeNewName_60 : decode cX5_takeNewName 60 = .ok (.getfield 121, 3) := by decide +kernel
theorem dX5_takeNewName_63 : decode cX5_takeNewName 63 = .ok (.iload_n 3, 1) := by decide +kernel
theorem dX5_takeNewName_64 : decode cX5_takeNewName 64 = .ok (.invokevirtual 137, 3) := by decide +kernel
theorem dX5_takeNewName_67 : decode cX5_takeNewName 67 = .ok (.aload_n 0, 1) := by decide +kernel
theorem dX5_takeNewName_68 : decode cX5_takeNewName 68 = .ok (.invokevirtual 84, 3) := by decide +kernel
theorem dX5_takeNewName_71 : decode cX5_takeNewName 71 = .ok (.iconst 1, 1) := by decide +kernel
theorem dX5_takeNewName_72 : decode cX5_takeNewName 72 = .ok (.ireturn, 1) := by decide +kernel
set_option maxRecDepth 20000 in
theorem ggX5_isWord_J0_length_8abf5 : GoodIn wsX5_isWord wsJ0_length_8abf5 := goodIn_r _ [10, 11, 12, 13, 14, 9, 15, 16, 17, 64, 65, 66, 67] (by decide +kernel) (by decide +kernel)
set_option maxRecDepth 20000 in
theorem gX5_isWord_J0_length_8abf5 : GoodIn wsX5_isWord (wsV RX5 93 RJ0 yJ0_length_8abf5 wsJ0_length_8abf5) := goodIn_app (goodIn_of _ (by decide +kernel)) ggX5_isWord_J0_length_8abf5
set_option maxRecDepth 20000 in
theorem ggX5_isWord_J0_charAt_5068e : GoodIn wsX5_isWord wsJ0_charAt_5068e := goodIn_r _ [21, 11, 22, 23, 24, 9, 25, 16, 17, 26, 27, 28, 29, 30, 31, 32, 33, 34, 35, 36, 37, 38, 39, 40, 41, 42, 43, 44, 45, 46, 47, 48, 49, 50, 51, 52, 53, 54, 64, 65, 66, 67] (by decide +kernel) (by decide +kernel)
set_option maxRecDepth 20000 in
theorem gX5_isWord_J0_charAt_5068e : GoodIn wsX5_isWord (wsV RX5 99 RJ0 yJ0_charAt_5068e wsJ0_charAt_5068e) := goodIn_app (goodIn_of _ (by decide +kernel)) ggX5_isWord_J0_charAt_5068e
theorem dX5_isWord_0 : decode cX5_isWord 0 = .ok (.aload_n 0, 1) := by decide +kernel
theorem dX5_isWord_1 : decode cX5_isWord 1 = .ok (.getfield 48, 3) := by decide +kernel
theorem dX5_isWord_4 : decode cX5_isWord 4 = .ok (.iconst 1, 1) := by decide +kernel
theorem dX5_isWord_5 : decode cX5_isWord 5 = .ok (.if_icmp .ne 19, 3) := by decide +kernel
theorem dX5_isWord_8 : decode cX5_isWord 8 = .ok (.aload_n 0, 1) := by decide +kernel
theorem dX5_isWord_9 : decode cX5_isWord 9 = .ok (.getfield 130, 3) := by decide +kernel
theorem dX5_isWord_12 : decode cX5_isWord 12 = .ok (.aload_n 0, 1) := by decide +kernel
theorem dX5_isWord_13 : decode cX5_isWord 13 = .ok (.getfield 121, 3) := by decide +kernel
theorem dX5_isWord_16 : decode cX5_isWord 16 = .ok (.isub, 1) := by decide +kernel
theorem dX5_isWord_17 : decode cX5_isWord 17 = .ok (.aload_n 1, 1) := by decide +kernel
theorem dX5_isWord_18 : decode cX5_isWord 18 = .ok (.invokevirtual 93, 3) := by decide +kernel
theorem dX5_isWord_21 : decode cX5_isWord 21 = .ok (.if_icmp .eq 5, 3) := by decide +kernel
theorem dX5_isWord_24 : decode cX5_isWord 24 = .ok (.iconst 0, 1) := by decide +kernel
theorem dX5_isWord_25 : decode cX5_isWord 25 = .ok (.ireturn, 1) := by decide +kernel
theorem dX5_isWord_26 : decode cX5_isWord 26 = .ok (.iconst 0, 1) := by decide +kernel
theorem dX5_isWord_27 : decode cX5_isWord 27 = .ok (.istore_n 2, 1) := by decide +kernel
theorem dX5_isWord_28 : decode cX5_isWord 28 = .ok (.iload_n 2, 1) := by decide +kernel
theorem dX5_isWord_29 : decode cX5_isWord 29 = .ok (.aload_n 1, 1) := by decide +kernel
theorem dX5_isWord_30 : decode cX5_isWord 30 = .ok (.invokevirtual 93, 3) := by decide +kernel
theorem dX5_isWord_33 : decode cX5_isWord 33 = .ok (.if_icmp .ge 33, 3) := by decide +kernel
theorem dX5_isWord_36 : decode cX5_isWord 36 = .ok (.aload_n 0, 1) := by decide +kernel
theorem dX5_isWord_37 : decode cX5_isWord 37 = .ok (.getfield 9, 3) := by decide +kernel
theorem dX5_isWord_40 : decode cX5_isWord 40 = .ok (.getfield 141, 3) := by decide +kernel
theorem dX5_isWord_43 : decode cX5_isWord 43 = .ok (.aload_n 0, 1) := by decide +kernel
theorem dX5_isWord_44 : decode cX5_isWord 44 = .ok (.getfield 121, 3) := by decide +kernel
theorem dX5_isWord_47 : decode cX5_isWord 47 = .ok (.iload_n 2, 1) := by decide +kernel
theorem dX5_isWord_48 : decode cX5_isWord 48 = .ok (.iadd, 1) := by decide +kernel
theorem dX5_isWord_49 : decode cX5_isWord 49 = .ok (.iaload, 1) := by decide +kernel
theorem dX5_isWord_50 : decode cX5_isWord 50 = .ok (.aload_n 1, 1) := by decide +kernel
theorem dX5_isWord_51 : decode cX5_isWord 51 = .ok (.iload_n 2, 1) := by decide +kernel
theorem dX5_isWord_52 : decode cX5_isWord 52 = .ok (.invokevirtual 99, 3) := by decide +kernel
theorem dX5_isWord_55 : decode cX5_isWord 55 = .ok (.if_icmp .eq 5, 3) := by decide +kernel
theorem dX5_isWord_58 : decode cX5_isWord 58 = .ok (.iconst 0, 1) := by decide +kernel
theorem dX5_isWord_59 : decode cX5_isWord 59 = .ok (.ireturn, 1) := by decide +kernel
theorem dX5_isWord_60 : decode cX5_isWord 60 = .ok (.iinc 2 1, 3) := by decide +kernel
theorem dX5_isWord_63 : decode cX5_isWord 63 = .ok (.goto (-35), 3) := by decide +kernel
theorem dX5_isWord_66 : decode cX5_isWord 66 = .ok (.iconst 1, 1) := by decide +kernel
theorem dX5_isWord_67 : decode cX5_isWord 67 = .ok (.ireturn, 1) := by decide +kernel
theorem dX5_numberOfToken_0 : decode cX5_numberOfToken 0 = .ok (.iconst 0, 1) := by decide +kernel
theorem dX5_numberOfToken_1 : decode cX5_numberOfToken 1 = .ok (.istore_n 1, 1) := by decide +kernel
theorem dX5_numberOfToken_2 : decode cX5_numberOfToken 2 = .ok (.aload_n 0, 1) := by decide +kernel
theorem dX5_numberOfToken_3 : decode cX5_numberOfToken 3 = .ok (.getfield 121, 3) := by decide +kernel
theorem dX5_numberOfToken_6 : decode cX5_numberOfToken 6 = .ok (.istore_n 2, 1) := by decide +kernel
theorem dX5_numberOfToken_7 : decode cX5_numberOfToken 7 = .ok (.iload_n 2, 1) := by decide +kernel
theorem dX5_numberOfToken_8 : decode cX5_numberOfToken 8 = .ok (.aload_n 0, 1) := by decide +kernel
theorem dX5_numberOfToken_9 : decode cX5_numberOfToken 9 = .ok (.getfield 130, 3) := by decide +kernel
theorem dX5_numberOfToken_12 : decode cX5_numberOfToken 12 = .ok (.if_icmp .ge 27, 3) := by decide +kernel
theorem dX5_numberOfToken_15 : decode cX5_numberOfToken 15 = .ok (.bipush 10, 2) := by decide +kernel
theorem dX5_numberOfToken_17 : decode cX5_numberOfToken 17 = .ok (.iload_n 1, 1) := by decide +kernel
theorem dX5_numberOfToken_18 : decode cX5_numberOfToken 18 = .ok (.imul, 1) := by decide +kernel
theorem dX5_numberOfToken_19 : decode cX5_numberOfToken 19 = .ok (.aload_n 0, 1) := by decide +kernel
theorem dX5_numberOfToken_20 : decode cX5_numberOfToken 20 = .ok (.getfield 9, 3) := by decide +kernel
theorem dX5_numberOfToken_23 : decode cX5_numberOfToken 23 = .ok (.getfield 141, 3) := by decide +kernel
theorem dX5_numberOfToken_26 : decode cX5_numberOfToken 26 = .ok (.iload_n 2, 1) := by decide +kernel
theorem dX5_numberOfToken_27 : decode cX5_numberOfToken 27 = .ok (.iaload, 1) := by decide +kernel
theorem dX5_numberOfToken_28 : decode cX5_numberOfToken 28 = .ok (.iadd, 1) := by decide +kernel
theorem dX5_numberOfToken_29 : decode cX5_numberOfToken 29 = .ok (.bipush 48, 2) := by decide +kernel
theorem dX5_numberOfToken_31 : decode cX5_numberOfToken 31 = .ok (.isub, 1) := by decide +kernel
theorem dX5_numberOfToken_32 : decode cX5_numberOfToken 32 = .ok (.istore_n 1, 1) := by decide +kernel
theorem dX5_numberOfToken_33 : decode cX5_numberOfToken 33 = .ok (.iinc 2 1, 3) := by decide +kernel
theorem dX5_numberOfToken_36 : decode cX5_numberOfToken 36 = .ok (.goto (-29), 3) := by decide +kernel
theorem dX5_numberOfToken_39 : decode cX5_numberOfToken 39 = .ok (.iload_n 1, 1) := by decide +kernel
theorem dX5_numberOfToken_40 : decode cX5_numberOfToken 40 = .ok (.ireturn, 1) := by decide +kernel
set_option maxRecDepth 20000 in
theorem ggX5_begin_X5_advance : GoodIn wsX5_begin wsX5_advance := goodIn_r _ [8, 3, 9, 10, 11, 12, 13, 14, 15, 7, 16, 17, 18, 19, 20, 21, 22, 23, 24, 25] (by decide +kernel) (by decide +kernel)
set_option maxRecDepth 20000 in
theorem gX5_begin_X5_advance : GoodIn wsX5_begin (wsV RX5 84 RX5 yX5_advance wsX5_advance) := goodIn_app (goodIn_of _ (by decide +kernel)) ggX5_begin_X5_advance
theorem dX5_begin_0 : decode cX5_begin 0 = .ok (.aload_n 0, 1) := by decide +kernel
theorem dX5_begin_1 : decode cX5_begin 1 = .ok (.iconst 0, 1) := by decide +kernel
theorem dX5_begin_2 : decode cX5_begin 2 = .ok (.putfield 118, 3) := by decide +kernel
theorem dX5_begin_5 : decode cX5_begin 5 = .ok (.aload_n 0, 1) := by decide +kernel
theorem dX5_begin_6 : decode cX5_begin 6 = .ok (.iconst (-1), 1) := by decide +kernel
theorem dX5_begin_7 : decode cX5_begin 7 = .ok (.putfield 124, 3) := by decide +kernel
theorem dX5_begin_10 : decode cX5_begin 10 = .ok (.aload_n 0, 1) := by decide +kernel
theorem dX5_begin_11 : decode cX5_begin 11 = .ok (.iconst 0, 1) := by decide +kernel
theorem dX5_begin_12 : decode cX5_begin 12 = .ok (.putfield 130, 3) := by decide +kernel
theorem dX5_begin_15 : decode cX5_begin 15 = .ok (.aload_n 0, 1) := by decide +kernel
theorem dX5_begin_16 : decode cX5_begin 16 = .ok (.invokevirtual 84, 3) := by decide +kernel
theorem dX5_begin_19 : decode cX5_begin 19 = .ok (.return_, 1) := by decide +kernel
set_option maxRecDepth 20000 in
theorem ggX5_advance_X5_kindOf : GoodIn wsX5_advance wsX5_kindOf := goodIn_r _ [10] (by decide +kernel) (by decide +kernel)
set_option maxRecDepth 20000 in
theorem gX5_advance_X5_kindOf : GoodIn wsX5_advance (va_wsS RX5 149 yX5_kindOf wsX5_kindOf) := goodIn_app (goodIn_of _ (by decide +kernel)) ggX5_advance_X5_kindOf
theorem dX5_advance_0 : decode cX5_advance 0 = .ok (.aload_n 0, 1) := by decide +kernel
theorem dX5_advance_1 : decode cX5_advance 1 = .ok (.aload_n 0, 1) := by decide +kernel
theorem dX5_advance_2 : decode cX5_advance 2 = .ok (.getfield 130, 3) := by decide +kernel
theorem dX5_advance_5 : decode cX5_advance 5 = .ok (.putfield 121, 3) := by decide +kernel
theorem dX5_advance_8 : decode cX5_advance 8 = .ok (.aload_n 0, 1) := by decide +kernel
theorem dX5_advance_9 : decode cX5_advance 9 = .ok (.getfield 121, 3) := by decide +kernel
theorem dX5_advance_12 : decode cX5_advance 12 = .ok (.aload_n 0, 1) := by decide +kernel
theorem dX5_advance_13 : decode cX5_advance 13 = .ok (.getfield 9, 3) := by decide +kernel
theorem dX5_advance_16 : decode cX5_advance 16 = .ok (.getfield 147, 3) := by decide +kernel
theorem dX5_advance_19 : decode cX5_advance 19 = .ok (.if_icmp .ge 35, 3) := by decide +kernel
theorem dX5_advance_22 : decode cX5_advance 22 = .ok (.aload_n 0, 1) := by decide +kernel
theorem dX5_advance_23 : decode cX5_advance 23 = .ok (.getfield 9, 3) := by decide +kernel
theorem dX5_advance_26 : decode cX5_advance 26 = .ok (.getfield 141, 3) := by decide +kernel
theorem dX5_advance_29 : decode cX5_advance 29 = .ok (.aload_n 0, 1) := by decide +kernel
theorem dX5_advance_30 : decode cX5_advance 30 = .ok (.getfield 121, 3) := by decide +kernel
theorem dX5_advance_33 : decode cX5_advance 33 = .ok (.iaload, 1) := by decide +kernel
theorem dX5_advance_34 : decode cX5_advance 34 = .ok (.invokestatic 149, 3) := by decide +kernel
theorem dX5_advance_37 : decode cX5_advance 37 = .ok (.iconst 4, 1) := by decide +kernel
theorem dX5_advance_38 : decode cX5_advance 38 = .ok (.if_icmp .ne 16, 3) := by decide +kernel
theorem dX5_advance_41 : decode cX5_advance 41 = .ok (.aload_n 0, 1) := by decide +kernel
theorem dX5_advance_42 : decode cX5_advance 42 = .ok (.dup, 1) := by decide +kernel
theorem dX5_advance_43 : decode cX5_advance 43 = .ok (.getfield 121, 3) := by decide +kernel
theorem dX5_advance_46 : decode cX5_advance 46 = .ok (.iconst 1, 1) := by decide +kernel
theorem dX5_advance_47 : decode cX5_advance 47 = .ok (.iadd, 1) := by decide +kernel
theorem dX5_advance_48 : decode cX5_advance 48 = .ok (.putfield 121, 3) := by decide +kernel
theorem dX5_advance_51 : decode cX5_advance 51 = .ok (.goto (-43), 3) := by decide +kernel
theorem dX5_advance_54 : decode cX5_advance 54 = .ok (.aload_n 0, 1) := by decide +kernel
theorem dX5_advance_55 : decode cX5_advance 55 = .ok (.aload_n 0, 1) := by decide +kernel
theorem dX5_advance_56 : decode cX5_advance 56 = .ok (.getfield 121, 3) := by decide +kernel
theorem dX5_advance_59 : decode cX5_advance 59 = .ok (.aload_n 0, 1) := by decide +kernel
theorem dX5_advance_60 : decode cX5_advance 60 = .ok (.getfield 9, 3) := by decide +kernel
theorem dX5_advance_63 : decode cX5_advance 63 = .ok (.getfield 147, 3) := by decide +kernel
theorem dX5_advance_66 : decode cX5_advance 66 = .ok (.if_icmp .ge 21, 3) := by decide +kernel
theorem dX5_advance_69 : decode cX5_advance 69 = .ok (.aload_n 0, 1) := by decide +kernel
theorem dX5_advance_70 : decode cX5_advance 70 = .ok (.getfield 9, 3) := by decide +kernel
theorem dX5_advance_73 : decode cX5_advance 73 = .ok (.getfield 141, 3) := by decide +kernel
theorem dX5_advance_76 : decode cX5_advance 76 = .ok (.aload_n 0, 1) := by decide +kernel
theorem dX5_advance_77 : decode cX5_advance 77 = .ok (.getfield 121, 3) := by decide +kernel
theorem dX5_advance_80 : decode cX5_advance 80 = .ok (.iaload, 1) := by decide +kernel
theorem dX5_advance_81 : decode cX5_advance 81 = .ok (.invokestatic 149, 3) := by decide +kernel
theorem dX5_advance_84 : decode cX5_advance 84 = .ok (.goto 4, 3) := by decide +kernel
theorem dX5_advance_87 : decode cX5_advance 87 = .ok (.iconst 0, 1) := by decide +kernel
theorem dX5_advance_88 : decode cX5_advance 88 = .ok (.putfield 48, 3) := by decide +kernel
theorem dX5_advance_91 : decode cX5_advance 91 = .ok (.aload_n 0, 1) := by decide +kernel
theorem dX5_advance_92 : decode cX5_advance 92 = .ok (.aload_n 0, 1) := by decide +kernel
theorem dX5_advance_93 : decode cX5_advance 93 = .ok (.getfield 48, 3) := by decide +kernel
theorem dX5_advance_96 : decode cX5_advance 96 = .ok (.ifCond .ne 10, 3) := by decide +kernel
theorem dX5_advance_99 : decode cX5_advance 99 = .ok (.aload_n 0, 1) := by decide +kernel
theorem dX5_advance_100 : decode cX5_advance 100 = .ok (.getfield 121, 3) := by decide +kernel
theorem dX5_advance_103 : decode cX5_advance 103 = .ok (.goto 9, 3) := by decide +kernel
theorem dX5_advance_106 : decode cX5_advance 106 = .ok (.aload_n 0, 1) := by decide +kernel
theorem dX5_advance_107 : decode cX5_advance 107 = .ok (.getfield 121, 3) := by decide +kernel
theorem dX5_advance_110 : decode cX5_advance 110 = .ok (.iconst 1, 1) := by decide +kernel
theorem dX5_advance_111 : decode cX5_advance 111 = .ok (.iadd, 1) := by decide +kernel
theorem dX5_advance_112 : decode cX5_advance 112 = .ok (.putfield 130, 3) := by decide +kernel
theorem dX5_advance_115 : decode cX5_advance 115 = .ok (.aload_n 0, 1) := by decide +kernel
theorem dX5_advance_116 : decode cX5_advance 116 = .ok (.getfield 48, 3) := by decide +kernel
theorem dX5_advance_119 : decode cX5_advance 119 = .ok (.iconst 1, 1) := by decide +kernel
theorem dX5_advance_120 : decode cX5_advance 120 = .ok (.if_icmp .eq 11, 3) := by decide +kernel
theorem dX5_advance_123 : decode cX5_advance 123 = .ok (.aload_n 0, 1) := by decide +kernel
theorem dX5_advance_124 : decode cX5_advance 124 = .ok (.getfield 48, 3) := by decide +kernel
theorem dX5_advance_127 : decode cX5_advance 127 = .ok (.iconst 2, 1) := by decide +kernel
theorem dX5_advance_128 : decode cX5_advance 128 = .ok (.if_icmp .ne 92, 3) := by decide +kernel
theorem dX5_advance_131 : decode cX5_advance 131 = .ok (.aload_n 0, 1) := by decide +kernel
theorem dX5_advance_132 : decode cX5_advance 132 = .ok (.getfield 121, 3) := by decide +kernel
theorem dX5_advance_135 : decode cX5_advance 135 = .ok (.aload_n 0, 1) := by decide +kernel
theorem dX5_advance_136 : decode cX5_advance 136 = .ok (.getfield 48, 3) := by decide +kernel
theorem dX5_advance_139 : decode cX5_advance 139 = .ok (.iconst 1, 1) := by decide +kernel
theorem dX5_advance_140 : decode cX5_advance 140 = .ok (.if_icmp .ne 8, 3) := by decide +kernel
theorem dX5_advance_143 : decode cX5_advance 143 = .ok (.bipush 8, 2) := by decide +kernel
theorem dX5_advance_145 : decode cX5_advance 145 = .ok (.goto 4, 3) := by decide +kernel
theorem dX5_advance_148 : decode cX5_advance 148 = .ok (.iconst 2, 1) := by decide +kernel
theorem dX5_advance_149 : decode cX5_advance 149 = .ok (.iadd, 1) := by decide +kernel
theorem dX5_advance_150 : decode cX5_advance 150 = .ok (.istore_n 1, 1) := by decide +kernel
theorem dX5_advance_151 : decode cX5_advance 151 = .ok (.aload_n 0, 1) := by decide +kernel
theorem dX5_advance_152 : decode cX5_advance 152 = .ok (.getfield 130, 3) := by decide +kernel
theorem dX5_advance_155 : decode cX5_advance 155 = .ok (.aload_n 0, 1) := by decide +kernel
theorem dX5_advance_156 : decode cX5_advance 156 = .ok (.getfield 9, 3) := by decide +kernel
theorem dX5_advance_159 : decode cX5_advance 159 = .ok (.getfield 147, 3) := by decide +kernel
theorem dX5_advance_162 : decode cX5_advance 162 = .ok (.if_icmp .ge 38, 3) := by decide +kernel
theorem dX5_advance_165 : decode cX5_advance 165 = .ok (.aload_n 0, 1) := by decide +kernel
theorem dX5_advance_166 : decode cX5_advance 166 = .ok (.getfield 9, 3) := by decide +kernel
theorem dX5_advance_169 : decode cX5_advance 169 = .ok (.getfield 141, 3) := by decide +kernel
theorem dX5_advance_172 : decode cX5_advance 172 = .ok (.aload_n 0, 1) := by decide +kernel
theorem dX5_advance_173 : decode cX5_advance 173 = .ok (.getfield 130, 3) := by decide +kernel
theorem dX5_advance_176 : decode cX5_advance 176 = .ok (.iaload, 1) := by decide +kernel
theorem dX5_advance_177 : decode cX5_advance 177 = .ok (.invokestatic 149, 3) := by decide +kernel
theorem dX5_advance_180 : decode cX5_advance 180 = .ok (.aload_n 0, 1) := by decide +kernel
theorem dX5_advance_181 : decode cX5_advance 181 = .ok (.getfield 48, 3) := by decide +kernel
theorem dX5_advance_184 : decode cX5_advance 184 = .ok (.if_icmp .ne 16, 3) := by decide +kernel
theorem dX5_advance_187 : decode cX5_advance 187 = .ok (.aload_n 0, 1) := by decide +kernel
theorem dX5_advance_188 : decode cX5_advance 188 = .ok (.dup, 1) := by decide +kernel
theorem dX5_advance_189 : decode cX5_advance 189 = .ok (.getfield 130, 3) := by decide +kernel
theorem dX5_advance_192 : decode cX5_advance 192 = .ok (.iconst 1, 1) := by decide +kernel
theorem dX5_advance_193 : decode cX5_advance 193 = .ok (.iadd, 1) := by decide +kernel
theorem dX5_advance_194 : decode cX5_advance 194 = .ok (.putfield 130, 3) := by decide +kernel
theorem dX5_advance_197 : decode cX5_advance 197 = .ok (.goto (-46), 3) := by decide +kernel
theorem dX5_advance_200 : decode cX5_advance 200 = .ok (.aload_n 0, 1) := by decide +kernel
theorem dX5_advance_201 : decode cX5_advance 201 = .ok (.aload_n 0, 1) := by decide +kernel
theorem dX5_advance_202 : decode cX5_advance 202 = .ok (.getfield 130, 3) := by decide +kernel
theorem dX5_advance_205 : decode cX5_advance 205 = .ok (.iload_n 1, 1) := by decide +kernel
theorem dX5_advance_206 : decode cX5_advance 206 = .ok (.if_icmp .le 7, 3) := by decide +kernel
theorem dX5_advance_209 : decode cX5_advance 209 = .ok (.iconst 5, 1) := by decide +kernel
theorem dX5_advance_210 : decode cX5_advance 210 = .ok (.goto 7, 3) := by decide +kernel
theorem dX5_advance_213 : decode cX5_advance 213 = .ok (.aload_n 0, 1) := by decide +kernel
theorem dX5_advance_214 : decode cX5_advance 214 = .ok (.getfield 48, 3) := by decide +kernel
theorem dX5_advance_217 : decode cX5_advance 217 = .ok (.putfield 48, 3) := by decide +kernel
theorem dX5_advance_220 : decode cX5_advance 220 = .ok (.return_, 1) := by decide +kernel
theorem dX5_kindOf_0 : decode cX5_kindOf 0 = .ok (.iload_n 0, 1) := by decide +kernel
theorem dX5_kindOf_1 : decode cX5_kindOf 1 = .ok (.bipush 97, 2) := by decide +kernel
theorem dX5_kindOf_3 : decode cX5_kindOf 3 = .ok (.if_icmp .lt 11, 3) := by decide +kernel
theorem dX5_kindOf_6 : decode cX5_kindOf 6 = .ok (.iload_n 0, 1) := by decide +kernel
theorem dX5_kindOf_7 : decode cX5_kindOf 7 = .ok (.bipush 122, 2) := by decide +kernel
theorem dX5_kindOf_9 : decode cX5_kindOf 9 = .ok (.if_icmp .gt 5, 3) := by decide +kernel
theorem dX5_kindOf_12 : decode cX5_kindOf 12 = .ok (.iconst 1, 1) := by decide +kernel
theorem dX5_kindOf_13 : decode cX5_kindOf 13 = .ok (.ireturn, 1) := by decide +kernel
theorem dX5_kindOf_14 : decode cX5_kindOf 14 = .ok (.iload_n 0, 1) := by decide +kernel
theorem dX5_kindOf_15 : decode cX5_kindOf 15 = .ok (.bipush 48, 2) := by decide +kernel
theorem dX5_kindOf_17 : decode cX5_kindOf 17 = .ok (.if_icmp .lt 11, 3) := by decide +kernel
theorem dX5_kindOf_20 : decode cX5_kindOf 20 = .ok (.iload_n 0, 1) := by decide +kernel
theorem dX5_kindOf_21 : decode cX5_kindOf 21 = .ok (.bipush 57, 2) := by decide +kernel
theorem dX5_kindOf_23 : decode cX5_kindOf 23 = .ok (.if_icmp .gt 5, 3) := by decide +kernel
theorem dX5_kindOf_26 : decode cX5_kindOf 26 = .ok (.iconst 2, 1) := by decide +kernel
theorem dX5_kindOf_27 : decode cX5_kindOf 27 = .ok (.ireturn, 1) := by decide +kernel
theorem dX5_kindOf_28 : decode cX5_kindOf 28 = .ok (.iload_n 0, 1) := by decide +kernel
theorem dX5_kindOf_29 : decode cX5_kindOf 29 = .ok (.bipush 32, 2) := by decide +kernel
theorem dX5_kindOf_31 : decode cX5_kindOf 31 = .ok (.if_icmp .eq 9, 3) := by decide +kernel
theorem dX5_kindOf_34 : decode cX5_kindOf 34 = .ok (.iload_n 0, 1) := by decide +kernel
theorem dX5_kindOf_35 : decode cX5_kindOf 35 = .ok (.bipush 10, 2) := by decide +kernel
theorem dX5_kindOf_37 : decode cX5_kindOf 37 = .ok (.if_icmp .ne 5, 3) := by decide +kernel
theorem dX5_kindOf_40 : decode cX5_kindOf 40 = .ok (.iconst 4, 1) := by decide +kernel
theorem dX5_kindOf_41 : decode cX5_kindOf 41 = .ok (.ireturn, 1) := by decide +kernel
theorem dX5_kindOf_42 : decode cX5_kindOf 42 = .ok (.iload_n 0, 1) := by decide +kernel
theorem dX5_kindOf_43 : decode cX5_kindOf 43 = .ok (.bipush 59, 2) := by decide +kernel
theorem dX5_kindOf_45 : decode cX5_kindOf 45 = .ok (.if_icmp .ne 7, 3) := by decide +kernel
theorem dX5_kindOf_48 : decode cX5_kindOf 48 = .ok (.iconst 3, 1) := by decide +kernel
theorem dX5_kindOf_49 : decode cX5_kindOf 49 = .ok (.goto 4, 3) := by decide +kernel
theorem dX5_kindOf_52 : decode cX5_kindOf 52 = .ok (.iconst 5, 1) := by decide +kernel
theorem dX5_kindOf_53 : decode cX5_kindOf 53 = .ok (.ireturn, 1) := by decide +kernel
theorem dX6_init_0 : decode cX6_init 0 = .ok (.aload_n 0, 1) := by decide +kernel
theorem dX6_init_1 : decode cX6_init 1 = .ok (.invokespecial 3, 3) := by decide +kernel
theorem dX6_init_4 : decode cX6_init 4 = .ok (.aload_n 0, 1) := by decide +kernel
theorem dX6_init_5 : decode cX6_init 5 = .ok (.bipush 24, 2) := by decide +kernel
theorem dX6_init_7 : decode cX6_init 7 = .ok (.newarray .int, 2) := by decide +kernel
theorem dX6_init_9 : decode cX6_init 9 = .ok (.putfield 9, 3) := by decide +kernel
theorem dX6_init_12 : decode cX6_init 12 = .ok (.aload_n 0, 1) := by decide +kernel
theorem dX6_init_13 : decode cX6_init 13 = .ok (.aload_n 1, 1) := by decide +kernel
theorem dX6_init_14 : decode cX6_init 14 = .ok (.putfield 15, 3) := by decide +kernel
theorem dX6_init_17 : decode cX6_init 17 = .ok (.return_, 1) := by decide +kernel
set_option maxRecDepth 20000 in
theorem ggX6_markOf_X1_worthOfRun : GoodIn wsX6_markOf wsX1_worthOfRun := goodIn_r _ [7, 8, 15, 16, 17, 18, 19, 20] (by decide +kernel) (by decide +kernel)
set_option maxRecDepth 20000 in
theorem gX6_markOf_X1_worthOfRun : GoodIn wsX6_markOf (wsV RX6 25 RX1 yX1_worthOfRun wsX1_worthOfRun) := goodIn_app (goodIn_of _ (by decide +kernel)) ggX6_markOf_X1_worthOfRun
set_option maxRecDepth 20000 in
theorem ggX6_markOf_X1_valueOf : GoodIn wsX6_markOf wsX1_valueOf := goodIn_r _ [12, 8, 15, 16, 17, 18, 19, 20] (by decide +kernel) (by decide +kernel)
set_option maxRecDepth 20000 in
theorem gX6_markOf_X1_valueOf : GoodIn wsX6_markOf (wsV RX6 29 RX1 yX1_valueOf wsX1_valueOf) := goodIn_app (goodIn_of _ (by decide +kernel)) ggX6_markOf_X1_valueOf
theorem dX6_markOf_0 : decode cX6_markOf 0 = .ok (.aload_n 0, 1) := by decide +kernel
theorem dX6_markOf_1 : decode cX6_markOf 1 = .ok (.getfield 15, 3) := by decide +kernel
theorem dX6_markOf_4 : decode cX6_markOf 4 = .ok (.iload_n 1, 1) := by decide +kernel
theorem dX6_markOf_5 : decode cX6_markOf 5 = .ok (.iload_n 2, 1) := by decide +kernel
theorem dX6_markOf_6 : decode cX6_markOf 6 = .ok (.aload_n 0, 1) := by decide +kernel
theorem dX6_markOf_7 : decode cX6_markOf 7 = .ok (.getfield 15, 3) := by decide +kernel
theorem dX6_markOf_10 : decode cX6_markOf 10 = .ok (.getfield 19, 3) := by decide +kernel
theorem dX6_markOf_13 : decode cX6_markOf 13 = .ok (.invokevirtual 25, 3) := by decide +kernel
theorem dX6_markOf_16 : decode cX6_markOf 16 = .ok (.istore 4, 2) := by decide +kernel
theorem dX6_markOf_18 : decode cX6_markOf 18 = .ok (.iconst 0, 1) := by decide +kernel
theorem dX6_markOf_19 : decode cX6_markOf 19 = .ok (.istore 5, 2) := by decide +kernel
theorem dX6_markOf_21 : decode cX6_markOf 21 = .ok (.iload_n 2, 1) := by decide +kernel
theorem dX6_markOf_22 : decode cX6_markOf 22 = .ok (.istore 6, 2) := by decide +kernel
theorem dX6_markOf_24 : decode cX6_markOf 24 = .ok (.iload 6, 2) := by decide +kernel
theorem dX6_markOf_26 : decode cX6_markOf 26 = .ok (.aload_n 0, 1) := by decide +kernel
theorem dX6_markOf_27 : decode cX6_markOf 27 = .ok (.getfield 15, 3) := by decide +kernel
theorem dX6_markOf_30 : decode cX6_markOf 30 = .ok (.getfield 19, 3) := by decide +kernel
theorem dX6_markOf_33 : decode cX6_markOf 33 = .ok (.if_icmp .ge 36, 3) := by decide +kernel
theorem dX6_markOf_36 : decode cX6_markOf 36 = .ok (.iload 5, 2) := by decide +kernel
theorem dX6_markOf_38 : decode cX6_markOf 38 = .ok (.aload_n 0, 1) := by decide +kernel
theorem dX6_markOf_39 : decode cX6_markOf 39 = .ok (.getfield 15, 3) := by decide +kernel
theorem dX6_markOf_42 : decode cX6_markOf 42 = .ok (.iload_n 1, 1) := by decide +kernel
theorem dX6_markOf_43 : decode cX6_markOf 43 = .ok (.iload 6, 2) := by decide +kernel
theorem dX6_markOf_45 : decode cX6_markOf 45 = .ok (.invokevirtual 29, 3) := by decide +kernel
theorem dX6_markOf_48 : decode cX6_markOf 48 = .ok (.iadd, 1) := by decide +kernel
theorem dX6_markOf_49 : decode cX6_markOf 49 = .ok (.istore 5, 2) := by decide +kernel
theorem dX6_markOf_51 : decode cX6_markOf 51 = .ok (.iload 5, 2) := by decide +kernel
theorem dX6_markOf_53 : decode cX6_markOf 53 = .ok (.iload_n 3, 1) := by decide +kernel
theorem dX6_markOf_54 : decode cX6_markOf 54 = .ok (.imul, 1) := by decide +kernel
theorem dX6_markOf_55 : decode cX6_markOf 55 = .ok (.iload 4, 2) := by decide +kernel
theorem dX6_markOf_57 : decode cX6_markOf 57 = .ok (.if_icmp .lt 6, 3) := by decide +kernel
theorem dX6_markOf_60 : decode cX6_markOf 60 = .ok (.iload 6, 2) := by decide +kernel
theorem dX6_markOf_62 : decode cX6_markOf 62 = .ok (.ireturn, 1) := by decide +kernel
theorem dX6_markOf_63 : decode cX6_markOf 63 = .ok (.iinc 6 1, 3) := by decide +kernel
theorem dX6_markOf_66 : decode cX6_markOf 66 = .ok (.goto (-42), 3) := by decide +kernel
theorem dX6_markOf_69 : decode cX6_markOf 69 = .ok (.aload_n 0, 1) := by decide +kernel
theorem dX6_markOf_70 : decode cX6_markOf 70 = .ok (.getfield 15, 3) := by decide +kernel
theorem dX6_markOf_73 : decode cX6_markOf 73 = .ok (.getfield 19, 3) := by decide +kernel
theorem dX6_markOf_76 : decode cX6_markOf 76 = .ok (.iconst 1, 1) := by decide +kernel
theorem dX6_markOf_77 : decode cX6_markOf 77 = .ok (.isub, 1) := by decide +kernel
theorem dX6_markOf_78 : decode cX6_markOf 78 = .ok (.ireturn, 1) := by decide +kernel
set_option maxRecDepth 20000 in
theorem ggX6_favouriteOf_X1_valueOf : GoodIn wsX6_favouriteOf wsX1_valueOf := goodIn_r _ [7, 8, 11, 12, 13, 14, 15, 16] (by decide +kernel) (by decide +kernel)
set_option maxRecDepth 20000 in
theorem gX6_favouriteOf_X1_valueOf : GoodIn wsX6_favouriteOf (wsV RX6 29 RX1 yX1_valueOf wsX1_valueOf) := goodIn_app (goodIn_of _ (by decide +kernel)) ggX6_favouriteOf_X1_valueOf
theorem dX6_favouriteOf_0 : decode cX6_favouriteOf 0 = .ok (.iconst (-1), 1) := by decide +kernel
theorem dX6_favouriteOf_1 : decode cX6_favouriteOf 1 = .ok (.istore_n 3, 1) := by decide +kernel
theorem dX6_favouriteOf_2 : decode cX6_favouriteOf 2 = .ok (.iconst (-1), 1) := by decide +kernel
theorem dX6_favouriteOf_3 : decode cX6_favouriteOf 3 = .ok (.istore 4, 2) := by decide +kernel
theorem dX6_favouriteOf_5 : decode cX6_favouriteOf 5 = .ok (.iconst 0, 1) := by decide +kernel
theorem dX6_favouriteOf_6 : decode cX6_favouriteOf 6 = .ok (.istore 5, 2) := by decide +kernel
theorem dX6_favouriteOf_8 : decode cX6_favouriteOf 8 = .ok (.iload 5, 2) := by decide +kernel
theorem dX6_favouriteOf_10 : decode cX6_favouriteOf 10 = .ok (.aload_n 0, 1) := by decide +kernel
theorem dX6_favouriteOf_11 : decode cX6_favouriteOf 11 = .ok (.getfield 15, 3) := by decide +kernel
theorem dX6_favouriteOf_14 : decode cX6_favouriteOf 14 = .ok (.getfield 19, 3) := by decide +kernel
theorem dX6_favouriteOf_17 : decode cX6_favouriteOf 17 = .ok (.if_icmp .ge 47, 3) := by decide +kernel
theorem dX6_favouriteOf_20 : decode cX6_favouriteOf 20 = .ok (.aload_n 1, 1) := by decide +kernel
theorem dX6_favouriteOf_21 : decode cX6_favouriteOf 21 = .ok (.iload 5, 2) := by decide +kernel
theorem dX6_favouriteOf_23 : decode cX6_favouriteOf 23 = .ok (.iaload, 1) := by decide +kernel
theorem dX6_favouriteOf_24 : decode cX6_favouriteOf 24 = .ok (.iconst (-1), 1) := by decide +kernel
theorem dX6_favouriteOf_25 : decode cX6_favouriteOf 25 = .ok (.if_icmp .ne 33, 3) := by decide +kernel
theorem dX6_favouriteOf_28 : decode cX6_favouriteOf 28 = .ok (.aload_n 0, 1) := by decide +kernel
theorem dX6_favouriteOf_29 : decode cX6_favouriteOf 29 = .ok (.getfield 15, 3) := by decide +kernel
theorem dX6_favouriteOf_32 : decode cX6_favouriteOf 32 = .ok (.iload_n 2, 1) := by decide +kernel
theorem dX6_favouriteOf_33 : decode cX6_favouriteOf 33 = .ok (.iload 5, 2) := by decide +kernel
theorem dX6_favouriteOf_35 : decode cX6_favouriteOf 35 = .ok (.invokevirtual 29, 3) := by decide +kernel
theorem dX6_favouriteOf_38 : decode cX6_favouriteOf 38 = .ok (.iload 4, 2) := by decide +kernel
theorem dX6_favouriteOf_40 : decode cX6_favouriteOf 40 = .ok (.if_icmp .le 18, 3) := by decide +kernel
theorem dX6_favouriteOf_43 : decode cX6_favouriteOf 43 = .ok (.aload_n 0, 1) := by decide +kernel
theorem dX6_favouriteOf_44 : decode cX6_favouriteOf 44 = .ok (.getfield 15, 3) := by decide +kernel
theorem dX6_favouriteOf_47 : decode cX6_favouriteOf 47 = .ok (.iload_n 2, 1) := by decide +kernel
theorem dX6_favouriteOf_48 : decode cX6_favouriteOf 48 = .ok (.iload 5, 2) := by decide +kernel
theorem dX6_favouriteOf_50 : decode cX6_favouriteOf 50 = .ok (.invokevirtual 29, 3) := by decide +kernel
theorem dX6_favouriteOf_53 : decode cX6_favouriteOf 53 = .ok (.istore 4, 2) := by decide +kernel
theorem dX6_favouriteOf_55 : decode cX6_favouriteOf 55 = .ok (.iload 5, 2) := by decide +kernel
theorem dX6_favouriteOf_57 : decode cX6_favouriteOf 57 = .ok (.istore_n 3, 1) := by decide +kernel
theorem dX6_favouriteOf_58 : decode cX6_favouriteOf 58 = .ok (.iinc 5 1, 3) := by decide +kernel
theorem dX6_favouriteOf_61 : decode cX6_favouriteOf 61 = .ok (.goto (-53), 3) := by decide +kernel
theorem dX6_favouriteOf_64 : decode cX6_favouriteOf 64 = .ok (.iload_n 3, 1) := by decide +kernel
theorem dX6_favouriteOf_65 : decode cX6_favouriteOf 65 = .ok (.ireturn, 1) := by decide +kernel
set_option maxRecDepth 20000 in
theorem ggX6_cutOf_X1_worthOfAll : GoodIn wsX6_cutOf wsX1_worthOfAll := goodIn_r _ [11, 12, 13, 14, 15, 10, 16, 17, 24, 25, 26, 27, 28, 29] (by decide +kernel) (by decide +kernel)
set_option maxRecDepth 20000 in
theorem gX6_cutOf_X1_worthOfAll : GoodIn wsX6_cutOf (wsV RX6 33 RX1 yX1_worthOfAll wsX1_worthOfAll) := goodIn_app (goodIn_of _ (by decide +kernel)) ggX6_cutOf_X1_worthOfAll
set_option maxRecDepth 20000 in
theorem ggX6_cutOf_X1_valueOf : GoodIn wsX6_cutOf wsX1_valueOf := goodIn_r _ [21, 17, 24, 25, 26, 27, 28, 29] (by decide +kernel) (by decide +kernel)
set_option maxRecDepth 20000 in
theorem gX6_cutOf_X1_valueOf : GoodIn wsX6_cutOf (wsV RX6 29 RX1 yX1_valueOf wsX1_valueOf) := goodIn_app (goodIn_of _ (by decide +kernel)) ggX6_cutOf_X1_valueOf
theorem dX6_cutOf_0 : decode cX6_cutOf 0 = .ok (.aload_n 0, 1) := by decide +kernel
theorem dX6_cutOf_1 : decode cX6_cutOf 1 = .ok (.getfield 15, 3) := by decide +kernel
theorem dX6_cutOf_4 : decode cX6_cutOf 4 = .ok (.iload_n 1, 1) := by decide +kernel
theorem dX6_cutOf_5 : decode cX6_cutOf 5 = .ok (.invokevirtual 33, 3) := by decide +kernel
theorem dX6_cutOf_8 : decode cX6_cutOf 8 = .ok (.istore_n 2, 1) := by decide +kernel
theorem dX6_cutOf_9 : decode cX6_cutOf 9 = .ok (.iload_n 2, 1) := by decide +kernel
theorem dX6_cutOf_10 : decode cX6_cutOf 10 = .ok (.istore_n 3, 1) := by decide +kernel
theorem dX6_cutOf_11 : decode cX6_cutOf 11 = .ok (.iconst 0, 1) := by decide +kernel
theorem dX6_cutOf_12 : decode cX6_cutOf 12 = .ok (.istore 4, 2) := by decide +kernel
theorem dX6_cutOf_14 : decode cX6_cutOf 14 = .ok (.iconst 0, 1) := by decide +kernel
theorem dX6_cutOf_15 : decode cX6_cutOf 15 = .ok (.istore 5, 2) := by decide +kernel
theorem dX6_cutOf_17 : decode cX6_cutOf 17 = .ok (.iload 5, 2) := by decide +kernel
theorem dX6_cutOf_19 : decode cX6_cutOf 19 = .ok (.aload_n 0, 1) := by decide +kernel
theorem dX6_cutOf_20 : decode cX6_cutOf 20 = .ok (.getfield 15, 3) := by decide +kernel
theorem dX6_cutOf_23 : decode cX6_cutOf 23 = .ok (.getfield 19, 3) := by decide +kernel
theorem dX6_cutOf_26 : decode cX6_cutOf 26 = .ok (.if_icmp .ge 43, 3) := by decide +kernel
theorem dX6_cutOf_29 : decode cX6_cutOf 29 = .ok (.iload_n 2, 1) := by decide +kernel
theorem dX6_cutOf_30 : decode cX6_cutOf 30 = .ok (.iconst 2, 1) := by decide +kernel
theorem dX6_cutOf_31 : decode cX6_cutOf 31 = .ok (.aload_n 0, 1) := by decide +kernel
theorem dX6_cutOf_32 : decode cX6_cutOf 32 = .ok (.getfield 15, 3) := by decide +kernel
theorem dX6_cutOf_35 : decode cX6_cutOf 35 = .ok (.iload_n 1, 1) := by decide +kernel
theorem dX6_cutOf_36 : decode cX6_cutOf 36 = .ok (.iload 5, 2) := by decide +kernel
theorem dX6_cutOf_38 : decode cX6_cutOf 38 = .ok (.invokevirtual 29, 3) := by decide +kernel
theorem dX6_cutOf_41 : decode cX6_cutOf 41 = .ok (.imul, 1) := by decide +kernel
theorem dX6_cutOf_42 : decode cX6_cutOf 42 = .ok (.isub, 1) := by decide +kernel
theorem dX6_cutOf_43 : decode cX6_cutOf 43 = .ok (.istore_n 2, 1) := by decide +kernel
theorem dX6_cutOf_44 : decode cX6_cutOf 44 = .ok (.iload_n 2, 1) := by decide +kernel
theorem dX6_cutOf_45 : decode cX6_cutOf 45 = .ok (.invokestatic 37, 3) := by decide +kernel
theorem dX6_cutOf_48 : decode cX6_cutOf 48 = .ok (.iload_n 3, 1) := by decide +kernel
theorem dX6_cutOf_49 : decode cX6_cutOf 49 = .ok (.if_icmp .ge 14, 3) := by decide +kernel
theorem dX6_cutOf_52 : decode cX6_cutOf 52 = .ok (.iload_n 2, 1) := by decide +kernel
theorem dX6_cutOf_53 : decode cX6_cutOf 53 = .ok (.invokestatic 37, 3) := by decide +kernel
theorem dX6_cutOf_56 : decode cX6_cutOf 56 = .ok (.istore_n 3, 1) := by decide +kernel
theorem dX6_cutOf_57 : decode cX6_cutOf 57 = .ok (.iload 5, 2) := by decide +kernel
theorem dX6_cutOf_59 : decode cX6_cutOf 59 = .ok (.iconst 1, 1) := by decide +kernel
theorem dX6_cutOf_60 : decode cX6_cutOf 60 = .ok (.iadd, 1) := by decide +kernel
theorem dX6_cutOf_61 : decode cX6_cutOf 61 = .ok (.istore 4, 2) := by decide +kernel
theorem dX6_cutOf_63 : decode cX6_cutOf 63 = .ok (.iinc 5 1, 3) := by decide +kernel
theorem dX6_cutOf_66 : decode cX6_cutOf 66 = .ok (.goto (-49), 3) := by decide +kernel
theorem dX6_cutOf_69 : decode cX6_cutOf 69 = .ok (.iload 4, 2) := by decide +kernel
theorem dX6_cutOf_71 : decode cX6_cutOf 71 = .ok (.ireturn, 1) := by decide +kernel
set_option maxRecDepth 20000 in
theorem ggX6_cutAndChoose_X6_cutOf : GoodIn wsX6_cutAndChoose wsX6_cutOf := goodIn_r _ [8, 1, 2, 9, 10, 11, 12, 13, 14, 15, 16, 17, 18, 19, 20, 21, 22, 23, 24, 25, 26, 27, 33, 34, 35, 36, 37, 38, 39, 40] (by decide +kernel) (by decide +kernel)
set_option maxRecDepth 20000 in
theorem gX6_cutAndChoose_X6_cutOf : GoodIn wsX6_cutAndChoose (wsV RX6 42 RX6 yX6_cutOf wsX6_cutOf) := goodIn_app (goodIn_of _ (by decide +kernel)) ggX6_cutAndChoose_X6_cutOf
set_option maxRecDepth 20000 in
theorem ggX6_cutAndChoose_X1_worthOfRun : GoodIn wsX6_cutAndChoose wsX1_worthOfRun := goodIn_r _ [22, 23, 35, 36, 37, 38, 39, 40] (by decide +kernel) (by decide +kernel)
set_option maxRecDepth 20000 in
theorem gX6_cutAndChoose_X1_worthOfRun : GoodIn wsX6_cutAndChoose (wsV RX6 25 RX1 yX1_worthOfRun wsX1_worthOfRun) := goodIn_app (goodIn_of _ (by decide +kernel)) ggX6_cutAndChoose_X1_worthOfRun
set_option maxRecDepth 20000 in
theorem ggX6_cutAndChoose_X1_assign : GoodIn wsX6_cutAndChoose wsX1_assign := goodIn_r _ [32] (by decide +kernel) (by decide +kernel)
set_option maxRecDepth 20000 in
theorem gX6_cutAndChoose_X1_assign : GoodIn wsX6_cutAndChoose (wsV RX6 48 RX1 yX1_assign wsX1_assign) := goodIn_app (goodIn_of _ (by decide +kernel)) ggX6_cutAndChoose_X1_assign
theorem dX6_cutAndChoose_0 : decode cX6_cutAndChoose 0 = .ok (.aload_n 0, 1) := by decide +kernel
theorem dX6_cutAndChoose_1 : decode cX6_cutAndChoose 1 = .ok (.iload_n 1, 1) := by decide +kernel
theorem dX6_cutAndChoose_2 : decode cX6_cutAndChoose 2 = .ok (.invokevirtual 42, 3) := by decide +kernel
theorem dX6_cutAndChoose_5 : decode cX6_cutAndChoose 5 = .ok (.istore_n 3, 1) := by decide +kernel
theorem dX6_cutAndChoose_6 : decode cX6_cutAndChoose 6 = .ok (.aload_n 0, 1) := by decide +kernel
theorem dX6_cutAndChoose_7 : decode cX6_cutAndChoose 7 = .ok (.getfield 15, 3) := by decide +kernel
theorem dX6_cutAndChoose_10 : decode cX6_cutAndChoose 10 = .ok (.iload_n 2, 1) := by decide +kernel
theorem dX6_cutAndChoose_11 : decode cX6_cutAndChoose 11 = .ok (.iconst 0, 1) := by decide +kernel
theorem dX6_cutAndChoose_12 : decode cX6_cutAndChoose 12 = .ok (.iload_n 3, 1) := by decide +kernel
theorem dX6_cutAndChoose_13 : decode cX6_cutAndChoose 13 = .ok (.invokevirtual 25, 3) := by decide +kernel
theorem dX6_cutAndChoose_16 : decode cX6_cutAndChoose 16 = .ok (.istore 4, 2) := by decide +kernel
theorem dX6_cutAndChoose_18 : decode cX6_cutAndChoose 18 = .ok (.aload_n 0, 1) := by decide +kernel
theorem dX6_cutAndChoose_19 : decode cX6_cutAndChoose 19 = .ok (.getfield 15, 3) := by decide +kernel
theorem dX6_cutAndChoose_22 : decode cX6_cutAndChoose 22 = .ok (.iload_n 2, 1) := by decide +kernel
theorem dX6_cutAndChoose_23 : decode cX6_cutAndChoose 23 = .ok (.iload_n 3, 1) := by decide +kernel
theorem dX6_cutAndChoose_24 : decode cX6_cutAndChoose 24 = .ok (.aload_n 0, 1) := by decide +kernel
theorem dX6_cutAndChoose_25 : decode cX6_cutAndChoose 25 = .ok (.getfield 15, 3) := by decide +kernel
theorem dX6_cutAndChoose_28 : decode cX6_cutAndChoose 28 = .ok (.getfield 19, 3) := by decide +kernel
theorem dX6_cutAndChoose_31 : decode cX6_cutAndChoose 31 = .ok (.invokevirtual 25, 3) := by decide +kernel
theorem dX6_cutAndChoose_34 : decode cX6_cutAndChoose 34 = .ok (.istore 5, 2) := by decide +kernel
theorem dX6_cutAndChoose_36 : decode cX6_cutAndChoose 36 = .ok (.iload 4, 2) := by decide +kernel
theorem dX6_cutAndChoose_38 : decode cX6_cutAndChoose 38 = .ok (.iload 5, 2) := by decide +kernel
theorem dX6_cutAndChoose_40 : decode cX6_cutAndChoose 40 = .ok (.if_icmp .lt 7, 3) := by decide +kernel
theorem dX6_cutAndChoose_43 : decode cX6_cutAndChoose 43 = .ok (.iconst 1, 1) := by decide +kernel
theorem dX6_cutAndChoose_44 : decode cX6_cutAndChoose 44 = .ok (.goto 4, 3) := by decide +kernel
theorem dX6_cutAndChoose_47 : decode cX6_cutAndChoose 47 = .ok (.iconst 0, 1) := by decide +kernel
theorem dX6_cutAndChoose_48 : decode cX6_cutAndChoose 48 = .ok (.istore 6, 2) := by decide +kernel
theorem dX6_cutAndChoose_50 : decode cX6_cutAndChoose 50 = .ok (.aload_n 0, 1) := by decide +kernel
theorem dX6_cutAndChoose_51 : decode cX6_cutAndChoose 51 = .ok (.getfield 15, 3) := by decide +kernel
theorem dX6_cutAndChoose_54 : decode cX6_cutAndChoose 54 = .ok (.aload_n 0, 1) := by decide +kernel
theorem dX6_cutAndChoose_55 : decode cX6_cutAndChoose 55 = .ok (.getfield 15, 3) := by decide +kernel
theorem dX6_cutAndChoose_58 : decode cX6_cutAndChoose 58 = .ok (.getfield 45, 3) := by decide +kernel
theorem dX6_cutAndChoose_61 : decode cX6_cutAndChoose 61 = .ok (.iload 6, 2) := by decide +kernel
theorem dX6_cutAndChoose_63 : decode cX6_cutAndChoose 63 = .ok (.ifCond .eq 7, 3) := by decide +kernel
theorem dX6_cutAndChoose_66 : decode cX6_cutAndChoose 66 = .ok (.iload_n 2, 1) := by decide +kernel
theorem dX6_cutAndChoose_67 : decode cX6_cutAndChoose 67 = .ok (.goto 4, 3) := by decide +kernel
theorem dX6_cutAndChoose_70 : decode cX6_cutAndChoose 70 = .ok (.iload_n 1, 1) := by decide +kernel
theorem dX6_cutAndChoose_71 : decode cX6_cutAndChoose 71 = .ok (.iconst 0, 1) := by decide +kernel
theorem dX6_cutAndChoose_72 : decode cX6_cutAndChoose 72 = .ok (.iload_n 3, 1) := by decide +kernel
theorem dX6_cutAndChoose_73 : decode cX6_cutAndChoose 73 = .ok (.invokevirtual 48, 3) := by decide +kernel
theorem dX6_cutAndChoose_76 : decode cX6_cutAndChoose 76 = .ok (.aload_n 0, 1) := by decide +kernel
theorem dX6_cutAndChoose_77 : decode cX6_cutAndChoose 77 = .ok (.getfield 15, 3) := by decide +kernel
theorem dX6_cutAndChoose_80 : decode cX6_cutAndChoose 80 = .ok (.aload_n 0, 1) := by decide +kernel
theorem dX6_cutAndChoose_81 : decode cX6_cutAndChoose 81 = .ok (.getfield 15, 3) := by decide +kernel
theorem dX6_cutAndChoose_84 : decode cX6_cutAndChoose 84 = .ok (.getfield 45, 3) := by decide +kernel
theorem dX6_cutAndChoose_87 : decode cX6_cutAndChoose 87 = .ok (.iload 6, 2) := by decide +kernel
theorem dX6_cutAndChoose_89 : decode cX6_cutAndChoose 89 = .ok (.ifCond .eq 7, 3) := by decide +kernel
theorem dX6_cutAndChoose_92 : decode cX6_cutAndChoose 92 = .ok (.iload_n 1, 1) := by decide +kernel
theorem dX6_cutAndChoose_93 : decode cX6_cutAndChoose 93 = .ok (.goto 4, 3) := by decide +kernel
theorem dX6_cutAndChoose_96 : decode cX6_cutAndChoose 96 = .ok (.iload_n 2, 1) := by decide +kernel
theorem dX6_cutAndChoose_97 : decode cX6_cutAndChoose 97 = .ok (.iload_n 3, 1) := by decide +kernel
theorem dX6_cutAndChoose_98 : decode cX6_cutAndChoose 98 = .ok (.aload_n 0, 1) := by decide +kernel
theorem dX6_cutAndChoose_99 : decode cX6_cutAndChoose 99 = .ok (.getfield 15, 3) := by decide +kernel
theorem dX6_cutAndChoose_102 : decode cX6_cutAndChoose 102 = .ok (.getfield 19, 3) := by decide +kernel
theorem dX6_cutAndChoose_105 : decode cX6_cutAndChoose 105 = .ok (.invokevirtual 48, 3) := by decide +kernel
theorem dX6_cutAndChoose_108 : decode cX6_cutAndChoose 108 = .ok (.iload_n 3, 1) := by decide +kernel
theorem dX6_cutAndChoose_109 : decode cX6_cutAndChoose 109 = .ok (.ireturn, 1) := by decide +kernel
set_option maxRecDepth 20000 in
theorem ggX6_divideByKnife_X6_firstToCall : GoodIn wsX6_divideByKnife wsX6_firstToCall := goodIn_r _ [8, 1, 2, 9, 10, 11, 7, 12, 13, 14, 15, 16, 17, 18, 19, 20, 3, 21, 22, 23, 24, 25, 26, 27, 28, 29, 30, 35, 36, 37, 38, 39, 40, 41, 42] (by decide +kernel) (by decide +kernel)
set_option maxRecDepth 20000 in
theorem gX6_divideByKnife_X6_firstToCall : GoodIn wsX6_divideByKnife (wsV RX6 55 RX6 yX6_firstToCall wsX6_firstToCall) := goodIn_app (goodIn_of _ (by decide +kernel)) ggX6_divideByKnife_X6_firstToCall
set_option maxRecDepth 20000 in
theorem ggX6_divideByKnife_X6_markOf : GoodIn wsX6_divideByKnife wsX6_markOf := goodIn_r _ [20, 1, 3, 21, 22, 23, 24, 25, 26, 27, 28, 29, 30, 35, 36, 37, 38, 39, 40, 41, 42] (by decide +kernel) (by decide +kernel)
set_option maxRecDepth 20000 in
theorem gX6_divideByKnife_X6_markOf : GoodIn wsX6_divideByKnife (wsV RX6 58 RX6 yX6_markOf wsX6_markOf) := goodIn_app (goodIn_of _ (by decide +kernel)) ggX6_divideByKnife_X6_markOf
set_option maxRecDepth 20000 in
theorem ggX6_divideByKnife_X1_assign : GoodIn wsX6_divideByKnife wsX1_assign := goodIn_r _ [34] (by decide +kernel) (by decide +kernel)
set_option maxRecDepth 20000 in
theorem gX6_divideByKnife_X1_assign : GoodIn wsX6_divideByKnife (wsV RX6 48 RX1 yX1_assign wsX1_assign) := goodIn_app (goodIn_of _ (by decide +kernel)) ggX6_divideByKnife_X1_assign
set_option maxRecDepth 20000 in
theorem ggX6_divideByKnife_X6_firstWaiting : GoodIn wsX6_divideByKnife wsX6_firstWaiting := goodIn_r _ [12, 1, 2, 13, 14, 15, 7, 16, 35, 36, 37, 38, 39, 40, 41, 42] (by decide +kernel) (by decide +kernel)
set_option maxRecDepth 20000 in
theorem gX6_divideByKnife_X6_firstWaiting : GoodIn wsX6_divideByKnife (wsV RX6 61 RX6 yX6_firstWaiting wsX6_firstWaiting) := goodIn_app (goodIn_of _ (by decide +kernel)) ggX6_divideByKnife_X6_firstWaiting
theorem dX6_divideByKnife_0 : decode cX6_divideByKnife 0 = .ok (.iconst 0, 1) := by decide +kernel
theorem dX6_divideByKnife_1 : decode cX6_divideByKnife 1 = .ok (.istore_n 2, 1) := by decide +kernel
theorem dX6_divideByKnife_2 : decode cX6_divideByKnife 2 = .ok (.iconst 0, 1) := by decide +kernel
theorem dX6_divideByKnife_3 : decode cX6_divideByKnife 3 = .ok (.istore_n 3, 1) := by decide +kernel
theorem dX6_divideByKnife_4 : decode cX6_divideByKnife 4 = .ok (.aload_n 0, 1) := by decide +kernel
theorem dX6_divideByKnife_5 : decode cX6_divideByKnife 5 = .ok (.getfield 15, 3) := by decide +kernel
theorem dX6_divideByKnife_8 : decode cX6_divideByKnife 8 = .ok (.getfield 52, 3) := by decide +kernel
theorem dX6_divideByKnife_11 : decode cX6_divideByKnife 11 = .ok (.istore 4, 2) := by decide +kernel
theorem dX6_divideByKnife_13 : decode cX6_divideByKnife 13 = .ok (.iload 4, 2) := by decide +kernel
theorem dX6_divideByKnife_15 : decode cX6_divideByKnife 15 = .ok (.iconst 1, 1) := by decide +kernel
theorem dX6_divideByKnife_16 : decode cX6_divideByKnife 16 = .ok (.if_icmp .le 66, 3) := by decide +kernel
theorem dX6_divideByKnife_19 : decode cX6_divideByKnife 19 = .ok (.iload_n 3, 1) := by decide +kernel
theorem dX6_divideByKnife_20 : decode cX6_divideByKnife 20 = .ok (.aload_n 0, 1) := by decide +kernel
theorem dX6_divideByKnife_21 : decode cX6_divideByKnife 21 = .ok (.getfield 15, 3) := by decide +kernel
theorem dX6_divideByKnife_24 : decode cX6_divideByKnife 24 = .ok (.getfield 19, 3) := by decide +kernel
theorem dX6_divideByKnife_27 : decode cX6_divideByKnife 27 = .ok (.if_icmp .ge 55, 3) := by decide +kernel
theorem dX6_divideByKnife_30 : decode cX6_divideByKnife 30 = .ok (.aload_n 0, 1) := by decide +kernel
theorem dX6_divideByKnife_31 : decode cX6_divideByKnife 31 = .ok (.iload_n 2, 1) := by decide +kernel
theorem dX6_divideByKnife_32 : decode cX6_divideByKnife 32 = .ok (.iload_n 3, 1) := by decide +kernel
theorem dX6_divideByKnife_33 : decode cX6_divideByKnife 33 = .ok (.iload 4, 2) := by decide +kernel
theorem dX6_divideByKnife_35 : decode cX6_divideByKnife 35 = .ok (.invokevirtual 55, 3) := by decide +kernel
theorem dX6_divideByKnife_38 : decode cX6_divideByKnife 38 = .ok (.istore 5, 2) := by decide +kernel
theorem dX6_divideByKnife_40 : decode cX6_divideByKnife 40 = .ok (.aload_n 0, 1) := by decide +kernel
theorem dX6_divideByKnife_41 : decode cX6_divideByKnife 41 = .ok (.iload 5, 2) := by decide +kernel
theorem dX6_divideByKnife_43 : decode cX6_divideByKnife 43 = .ok (.iload_n 3, 1) := by decide +kernel
theorem dX6_divideByKnife_44 : decode cX6_divideByKnife 44 = .ok (.iload 4, 2) := by decide +kernel
theorem dX6_divideByKnife_46 : decode cX6_divideByKnife 46 = .ok (.invokevirtual 58, 3) := by decide +kernel
theorem dX6_divideByKnife_49 : decode cX6_divideByKnife 49 = .ok (.iconst 1, 1) := by decide +kernel
theorem dX6_divideByKnife_50 : decode cX6_divideByKnife 50 = .ok (.iadd, 1) := by decide +kernel
theorem dX6_divideByKnife_51 : decode cX6_divideByKnife 51 = .ok (.istore 6, 2) := by decide +kernel
theorem dX6_divideByKnife_53 : decode cX6_divideByKnife 53 = .ok (.aload_n 0, 1) := by decide +kernel
theorem dX6_divideByKnife_54 : decode cX6_divideByKnife 54 = .ok (.getfield 15, 3) := by decide +kernel
theorem dX6_divideByKnife_57 : decode cX6_divideByKnife 57 = .ok (.aload_n 1, 1) := by decide +kernel
theorem dX6_divideByKnife_58 : decode cX6_divideByKnife 58 = .ok (.iload 5, 2) := by decide +kernel
theorem dX6_divideByKnife_60 : decode cX6_divideByKnife 60 = .ok (.iload_n 3, 1) := by decide +kernel
theorem dX6_divideByKnife_61 : decode cX6_divideByKnife 61 = .ok (.iload 6, 2) := by decide +kernel
theorem dX6_divideByKnife_63 : decode cX6_divideByKnife 63 = .ok (.invokevirtual 48, 3) := by decide +kernel
theorem dX6_divideByKnife_66 : decode cX6_divideByKnife 66 = .ok (.iload_n 2, 1) := by decide +kernel
theorem dX6_divideByKnife_67 : decode cX6_divideByKnife 67 = .ok (.iconst 1, 1) := by decide +kernel
theorem dX6_divideByKnife_68 : decode cX6_divideByKnife 68 = .ok (.iload 5, 2) := by decide +kernel
theorem dX6_divideByKnife_70 : decode cX6_divideByKnife 70 = .ok (.ishl, 1) := by decide +kernel
theorem dX6_divideByKnife_71 : decode cX6_divideByKnife 71 = .ok (.ior, 1) := by decide +kernel
theorem dX6_divideByKnife_72 : decode cX6_divideByKnife 72 = .ok (.istore_n 2, 1) := by decide +kernel
theorem dX6_divideByKnife_73 : decode cX6_divideByKnife 73 = .ok (.iload 6, 2) := by decide +kernel
theorem dX6_divideByKnife_75 : decode cX6_divideByKnife 75 = .ok (.istore_n 3, 1) := by decide +kernel
theorem dX6_divideByKnife_76 : decode cX6_divideByKnife 76 = .ok (.iinc 4 (-1), 3) := by decide +kernel
theorem dX6_divideByKnife_79 : decode cX6_divideByKnife 79 = .ok (.goto (-66), 3) := by decide +kernel
theorem dX6_divideByKnife_82 : decode cX6_divideByKnife 82 = .ok (.aload_n 0, 1) := by decide +kernel
theorem dX6_divideByKnife_83 : decode cX6_divideByKnife 83 = .ok (.getfield 15, 3) := by decide +kernel
theorem dX6_divideByKnife_86 : decode cX6_divideByKnife 86 = .ok (.aload_n 1, 1) := by decide +kernel
theorem dX6_divideByKnife_87 : decode cX6_divideByKnife 87 = .ok (.aload_n 0, 1) := by decide +kernel
theorem dX6_divideByKnife_88 : decode cX6_divideByKnife 88 = .ok (.iload_n 2, 1) := by decide +kernel
theorem dX6_divideByKnife_89 : decode cX6_divideByKnife 89 = .ok (.invokevirtual 61, 3) := by decide +kernel
theorem dX6_divideByKnife_92 : decode cX6_divideByKnife 92 = .ok (.iload_n 3, 1) := by decide +kernel
theorem dX6_divideByKnife_93 : decode cX6_divideByKnife 93 = .ok (.aload_n 0, 1) := by decide +kernel
theorem dX6_divideByKnife_94 : decode cX6_divideByKnife 94 = .ok (.getfield 15, 3) := by decide +kernel
theorem dX6_divideByKnife_97 : decode cX6_divideByKnife 97 = .ok (.getfield 19, 3) := by decide +kernel
theorem dX6_divideByKnife_100 : decode cX6_divideByKnife 100 = .ok (.invokevirtual 48, 3) := by decide +kernel
theorem dX6_divideByKnife_103 : decode cX6_divideByKnife 103 = .ok (.return_, 1) := by decide +kernel
set_option maxRecDepth 20000 in
theorem ggX6_firstToCall_X6_firstWaiting : GoodIn wsX6_firstToCall wsX6_firstWaiting := goodIn_r _ [7, 1, 2, 8, 9, 10, 6, 11, 27, 28, 29, 30, 31, 32, 33, 34] (by decide +kernel) (by decide +kernel)
set_option maxRecDepth 20000 in
theorem gX6_firstToCall_X6_firstWaiting : GoodIn wsX6_firstToCall (wsV RX6 61 RX6 yX6_firstWaiting wsX6_firstWaiting) := goodIn_app (goodIn_of _ (by decide +kernel)) ggX6_firstToCall_X6_firstWaiting
set_option maxRecDepth 20000 in
theorem ggX6_firstToCall_X6_markOf : GoodIn wsX6_firstToCall wsX6_markOf := goodIn_r _ [15, 1, 16, 17, 18, 19, 20, 21, 22, 23, 24, 25, 26, 27, 28, 29, 30, 31, 32, 33, 34] (by decide +kernel) (by decide +kernel)
set_option maxRecDepth 20000 in
theorem gX6_firstToCall_X6_markOf : GoodIn wsX6_firstToCall (wsV RX6 58 RX6 yX6_markOf wsX6_markOf) := goodIn_app (goodIn_of _ (by decide +kernel)) ggX6_firstToCall_X6_markOf
set_option maxRecDepth 20000 in
theorem ggX6_firstToCall_X6_isWaiting : GoodIn wsX6_firstToCall wsX6_isWaiting := goodIn_r _ [11] (by decide +kernel) (by decide +kernel)
set_option maxRecDepth 20000 in
theorem gX6_firstToCall_X6_isWaiting : GoodIn wsX6_firstToCall (wsV RX6 64 RX6 yX6_isWaiting wsX6_isWaiting) := goodIn_app (goodIn_of _ (by decide +kernel)) ggX6_firstToCall_X6_isWaiting
theorem dX6_firstToCall_0 : decode cX6_firstToCall 0 = .ok (.aload_n 0, 1) := by decide +kernel
theorem dX6_firstToCall_1 : decode cX6_firstToCall 1 = .ok (.iload_n 1, 1) := by decide +kernel
theorem dX6_firstToCall_2 : decode cX6_firstToCall 2 = .ok (.invokevirtual 61, 3) := by decide +kernel
theorem dX6_firstToCall_5 : decode cX6_firstToCall 5 = .ok (.istore 4, 2) := by decide +kernel
theorem dX6_firstToCall_7 : decode cX6_firstToCall 7 = .ok (.aload_n 0, 1) := by decide +kernel
theorem dX6_firstToCall_8 : decode cX6_firstToCall 8 = .ok (.iload 4, 2) := by decide +kernel
theorem dX6_firstToCall_10 : decode cX6_firstToCall 10 = .ok (.iload_n 2, 1) := by decide +kernel
theorem dX6_firstToCall_11 : decode cX6_firstToCall 11 = .ok (.iload_n 3, 1) := by decide +kernel
theorem dX6_firstToCall_12 : decode cX6_firstToCall 12 = .ok (.invokevirtual 58, 3) := by decide +kernel
theorem dX6_firstToCall_15 : decode cX6_firstToCall 15 = .ok (.istore 5, 2) := by decide +kernel
theorem dX6_firstToCall_17 : decode cX6_firstToCall 17 = .ok (.iload 4, 2) := by decide +kernel
theorem dX6_firstToCall_19 : decode cX6_firstToCall 19 = .ok (.iconst 1, 1) := by decide +kernel
theorem dX6_firstToCall_20 : decode cX6_firstToCall 20 = .ok (.iadd, 1) := by decide +kernel
theorem dX6_firstToCall_21 : decode cX6_firstToCall 21 = .ok (.istore 6, 2) := by decide +kernel
theorem dX6_firstToCall_23 : decode cX6_firstToCall 23 = .ok (.iload 6, 2) := by decide +kernel
theorem dX6_firstToCall_25 : decode cX6_firstToCall 25 = .ok (.aload_n 0, 1) := by decide +kernel
theorem dX6_firstToCall_26 : decode cX6_firstToCall 26 = .ok (.getfield 15, 3) := by decide +kernel
theorem dX6_firstToCall_29 : decode cX6_firstToCall 29 = .ok (.getfield 52, 3) := by decide +kernel
theorem dX6_firstToCall_32 : decode cX6_firstToCall 32 = .ok (.if_icmp .ge 46, 3) := by decide +kernel
theorem dX6_firstToCall_35 : decode cX6_firstToCall 35 = .ok (.aload_n 0, 1) := by decide +kernel
theorem dX6_firstToCall_36 : decode cX6_firstToCall 36 = .ok (.iload_n 1, 1) := by decide +kernel
theorem dX6_firstToCall_37 : decode cX6_firstToCall 37 = .ok (.iload 6, 2) := by decide +kernel
theorem dX6_firstToCall_39 : decode cX6_firstToCall 39 = .ok (.invokevirtual 64, 3) := by decide +kernel
theorem dX6_firstToCall_42 : decode cX6_firstToCall 42 = .ok (.ifCond .eq 30, 3) := by decide +kernel
theorem dX6_firstToCall_45 : decode cX6_firstToCall 45 = .ok (.aload_n 0, 1) := by decide +kernel
theorem dX6_firstToCall_46 : decode cX6_firstToCall 46 = .ok (.iload 6, 2) := by decide +kernel
theorem dX6_firstToCall_48 : decode cX6_firstToCall 48 = .ok (.iload_n 2, 1) := by decide +kernel
theorem dX6_firstToCall_49 : decode cX6_firstToCall 49 = .ok (.iload_n 3, 1) := by decide +kernel
theorem dX6_firstToCall_50 : decode cX6_firstToCall 50 = .ok (.invokevirtual 58, 3) := by decide +kernel
theorem dX6_firstToCall_53 : decode cX6_firstToCall 53 = .ok (.iload 5, 2) := by decide +kernel
theorem dX6_firstToCall_55 : decode cX6_firstToCall 55 = .ok (.if_icmp .ge 17, 3) := by decide +kernel
theorem dX6_firstToCall_58 : decode cX6_firstToCall 58 = .ok (.iload 6, 2) := by decide +kernel
theorem dX6_firstToCall_60 : decode cX6_firstToCall 60 = .ok (.istore 4, 2) := by decide +kernel
theorem dX6_firstToCall_62 : decode cX6_firstToCall 62 = .ok (.aload_n 0, 1) := by decide +kernel
theorem dX6_firstToCall_63 : decode cX6_firstToCall 63 = .ok (.iload 6, 2) := by decide +kernel
theorem dX6_firstToCall_65 : decode cX6_firstToCall 65 = .ok (.iload_n 2, 1) := by decide +kernel
theorem dX6_firstToCall_66 : decode cX6_firstToCall 66 = .ok (.iload_n 3, 1) := by decide +kernel
theorem dX6_firstToCall_67 : decode cX6_firstToCall 67 = .ok (.invokevirtual 58, 3) := by decide +kernel
theorem dX6_firstToCall_70 : decode cX6_firstToCall 70 = .ok (.istore 5, 2) := by decide +kernel
theorem dX6_firstToCall_72 : decode cX6_firstToCall 72 = .ok (.iinc 6 1, 3) := by decide +kernel
theorem dX6_firstToCall_75 : decode cX6_firstToCall 75 = .ok (.goto (-52), 3) := by decide +kernel
theorem dX6_firstToCall_78 : decode cX6_firstToCall 78 = .ok (.iload 4, 2) := by decide +kernel
theorem dX6_firstToCall_80 : decode cX6_firstToCall 80 = .ok (.ireturn, 1) := by decide +kernel
set_option maxRecDepth 20000 in
theorem ggX6_firstWaiting_X6_isWaiting : GoodIn wsX6_firstWaiting wsX6_isWaiting := goodIn_r _ [7] (by decide +kernel) (by decide +kernel)
set_option maxRecDepth 20000 in
theorem gX6_firstWaiting_X6_isWaiting : GoodIn wsX6_firstWaiting (wsV RX6 64 RX6 yX6_isWaiting wsX6_isWaiting) := goodIn_app (goodIn_of _ (by decide +kernel)) ggX6_firstWaiting_X6_isWaiting
theorem dX6_firstWaiting_0 : decode cX6_firstWaiting 0 = .ok (.iconst 0, 1) := by decide +kernel
theorem dX6_firstWaiting_1 : decode cX6_firstWaiting 1 = .ok (.istore_n 2, 1) := by decide +kernel
theorem dX6_firstWaiting_2 : decode cX6_firstWaiting 2 = .ok (.iload_n 2, 1) := by decide +kernel
theorem dX6_firstWaiting_3 : decode cX6_firstWaiting 3 = .ok (.aload_n 0, 1) := by decide +kernel
theorem dX6_firstWaiting_4 : decode cX6_firstWaiting 4 = .ok (.getfield 15, 3) := by decide +kernel
theorem dX6_firstWaiting_7 : decode cX6_firstWaiting 7 = .ok (.getfield 52, 3) := by decide +kernel
theorem dX6_firstWaiting_10 : decode cX6_firstWaiting 10 = .ok (.iconst 1, 1) := by decide +kernel
theorem dX6_firstWaiting_11 : decode cX6_firstWaiting 11 = .ok (.isub, 1) := by decide +kernel
theorem dX6_firstWaiting_12 : decode cX6_firstWaiting 12 = .ok (.if_icmp .ge 18, 3) := by decide +kernel
theorem dX6_firstWaiting_15 : decode cX6_firstWaiting 15 = .ok (.aload_n 0, 1) := by decide +kernel
theorem dX6_firstWaiting_16 : decode cX6_firstWaiting 16 = .ok (.iload_n 1, 1) := by decide +kernel
theorem dX6_firstWaiting_17 : decode cX6_firstWaiting 17 = .ok (.iload_n 2, 1) := by decide +kernel
theorem dX6_firstWaiting_18 : decode cX6_firstWaiting 18 = .ok (.invokevirtual 64, 3) := by decide +kernel
theorem dX6_firstWaiting_21 : decode cX6_firstWaiting 21 = .ok (.ifCond .ne 9, 3) := by decide +kernel
theorem dX6_firstWaiting_24 : decode cX6_firstWaiting 24 = .ok (.iinc 2 1, 3) := by decide +kernel
theorem dX6_firstWaiting_27 : decode cX6_firstWaiting 27 = .ok (.goto (-25), 3) := by decide +kernel
theorem dX6_firstWaiting_30 : decode cX6_firstWaiting 30 = .ok (.iload_n 2, 1) := by decide +kernel
theorem dX6_firstWaiting_31 : decode cX6_firstWaiting 31 = .ok (.ireturn, 1) := by decide +kernel
theorem dX6_isWaiting_0 : decode cX6_isWaiting 0 = .ok (.iload_n 1, 1) := by decide +kernel
theorem dX6_isWaiting_1 : decode cX6_isWaiting 1 = .ok (.iload_n 2, 1) := by decide +kernel
theorem dX6_isWaiting_2 : decode cX6_isWaiting 2 = .ok (.ishr, 1) := by decide +kernel
theorem dX6_isWaiting_3 : decode cX6_isWaiting 3 = .ok (.iconst 1, 1) := by decide +kernel
theorem dX6_isWaiting_4 : decode cX6_isWaiting 4 = .ok (.iand, 1) := by decide +kernel
theorem dX6_isWaiting_5 : decode cX6_isWaiting 5 = .ok (.ifCond .ne 7, 3) := by decide +kernel
theorem dX6_isWaiting_8 : decode cX6_isWaiting 8 = .ok (.iconst 1, 1) := by decide +kernel
theorem dX6_isWaiting_9 : decode cX6_isWaiting 9 = .ok (.goto 4, 3) := by decide +kernel
theorem dX6_isWaiting_12 : decode cX6_isWaiting 12 = .ok (.iconst 0, 1) := by decide +kernel
theorem dX6_isWaiting_13 : decode cX6_isWaiting 13 = .ok (.ireturn, 1) := by decide +kernel
set_option maxRecDepth 20000 in
theorem ggX6_divideByRobin_X6_favouriteOf : GoodIn wsX6_divideByRobin wsX6_favouriteOf := goodIn_r _ [8, 1, 2, 9, 10, 11, 12, 13, 14, 15, 16, 17, 18, 19, 20, 21, 22] (by decide +kernel) (by decide +kernel)
set_option maxRecDepth 20000 in
theorem gX6_divideByRobin_X6_favouriteOf : GoodIn wsX6_divideByRobin (wsV RX6 68 RX6 yX6_favouriteOf wsX6_favouriteOf) := goodIn_app (goodIn_of _ (by decide +kernel)) ggX6_divideByRobin_X6_favouriteOf
theorem dX6_divideByRobin_0 : decode cX6_divideByRobin 0 = .ok (.iload_n 2, 1) := by decide +kernel
theorem dX6_divideByRobin_1 : decode cX6_divideByRobin 1 = .ok (.istore_n 3, 1) := by decide +kernel
theorem dX6_divideByRobin_2 : decode cX6_divideByRobin 2 = .ok (.iconst 0, 1) := by decide +kernel
theorem dX6_divideByRobin_3 : decode cX6_divideByRobin 3 = .ok (.istore 4, 2) := by decide +kernel
theorem dX6_divideByRobin_5 : decode cX6_divideByRobin 5 = .ok (.iload 4, 2) := by decide +kernel
theorem dX6_divideByRobin_7 : decode cX6_divideByRobin 7 = .ok (.aload_n 0, 1) := by decide +kernel
theorem dX6_divideByRobin_8 : decode cX6_divideByRobin 8 = .ok (.getfield 15, 3) := by decide +kernel
theorem dX6_divideByRobin_11 : decode cX6_divideByRobin 11 = .ok (.getfield 19, 3) := by decide +kernel
theorem dX6_divideByRobin_14 : decode cX6_divideByRobin 14 = .ok (.if_icmp .ge 52, 3) := by decide +kernel
theorem dX6_divideByRobin_17 : decode cX6_divideByRobin 17 = .ok (.aload_n 0, 1) := by decide +kernel
theorem dX6_divideByRobin_18 : decode cX6_divideByRobin 18 = .ok (.aload_n 1, 1) := by decide +kernel
theorem dX6_divideByRobin_19 : decode cX6_divideByRobin 19 = .ok (.iload_n 3, 1) := by decide +kernel
theorem dX6_divideByRobin_20 : decode cX6_divideByRobin 20 = .ok (.invokevirtual 68, 3) := by decide +kernel
theorem dX6_divideByRobin_23 : decode cX6_divideByRobin 23 = .ok (.istore 5, 2) := by decide +kernel
theorem dX6_divideByRobin_25 : decode cX6_divideByRobin 25 = .ok (.iload 5, 2) := by decide +kernel
theorem dX6_divideByRobin_27 : decode cX6_divideByRobin 27 = .ok (.iconst (-1), 1) := by decide +kernel
theorem dX6_divideByRobin_28 : decode cX6_divideByRobin 28 = .ok (.if_icmp .ne 6, 3) := by decide +kernel
theorem dX6_divideByRobin_31 : decode cX6_divideByRobin 31 = .ok (.iload 4, 2) := by decide +kernel
theorem dX6_divideByRobin_33 : decode cX6_divideByRobin 33 = .ok (.ireturn, 1) := by decide +kernel
theorem dX6_divideByRobin_34 : decode cX6_divideByRobin 34 = .ok (.aload_n 1, 1) := by decide +kernel
theorem dX6_divideByRobin_35 : decode cX6_divideByRobin 35 = .ok (.iload 5, 2) := by decide +kernel
theorem dX6_divideByRobin_37 : decode cX6_divideByRobin 37 = .ok (.iload_n 3, 1) := by decide +kernel
theorem dX6_divideByRobin_38 : decode cX6_divideByRobin 38 = .ok (.iastore, 1) := by decide +kernel
theorem dX6_divideByRobin_39 : decode cX6_divideByRobin 39 = .ok (.iload_n 3, 1) := by decide +kernel
theorem dX6_divideByRobin_40 : decode cX6_divideByRobin 40 = .ok (.iconst 1, 1) := by decide +kernel
theorem dX6_divideByRobin_41 : decode cX6_divideByRobin 41 = .ok (.iadd, 1) := by decide +kernel
theorem dX6_divideByRobin_42 : decode cX6_divideByRobin 42 = .ok (.aload_n 0, 1) := by decide +kernel
theorem dX6_divideByRobin_43 : decode cX6_divideByRobin 43 = .ok (.getfield 15, 3) := by decide +kernel
theorem dX6_divideByRobin_46 : decode cX6_divideByRobin 46 = .ok (.getfield 52, 3) := by decide +kernel
theorem dX6_divideByRobin_49 : decode cX6_divideByRobin 49 = .ok (.if_icmp .ge 9, 3) := by decide +kernel
theorem dX6_divideByRobin_52 : decode cX6_divideByRobin 52 = .ok (.iload_n 3, 1) := by decide +kernel
theorem dX6_divideByRobin_53 : decode cX6_divideByRobin 53 = .ok (.iconst 1, 1) := by decide +kernel
theorem dX6_divideByRobin_54 : decode cX6_divideByRobin 54 = .ok (.iadd, 1) := by decide +kernel
theorem dX6_divideByRobin_55 : decode cX6_divideByRobin 55 = .ok (.goto 4, 3) := by decide +kernel
theorem dX6_divideByRobin_58 : decode cX6_divideByRobin 58 = .ok (.iconst 0, 1) := by decide +kernel
theorem dX6_divideByRobin_59 : decode cX6_divideByRobin 59 = .ok (.istore_n 3, 1) := by decide +kernel
theorem dX6_divideByRobin_60 : decode cX6_divideByRobin 60 = .ok (.iinc 4 1, 3) := by decide +kernel
theorem dX6_divideByRobin_63 : decode cX6_divideByRobin 63 = .ok (.goto (-58), 3) := by decide +kernel
theorem dX6_divideByRobin_66 : decode cX6_divideByRobin 66 = .ok (.aload_n 0, 1) := by decide +kernel
theorem dX6_divideByRobin_67 : decode cX6_divideByRobin 67 = .ok (.getfield 15, 3) := by decide +kernel
theorem dX6_divideByRobin_70 : decode cX6_divideByRobin 70 = .ok (.getfield 19, 3) := by decide +kernel
theorem dX6_divideByRobin_73 : decode cX6_divideByRobin 73 = .ok (.ireturn, 1) := by decide +kernel
theorem dX7_init_0 : decode cX7_init 0 = .ok (.aload_n 0, 1) := by decide +kernel
theorem dX7_init_1 : decode cX7_init 1 = .ok (.invokespecial 3, 3) := by decide +kernel
theorem dX7_init_4 : decode cX7_init 4 = .ok (.aload_n 0, 1) := by decide +kernel
theorem dX7_init_5 : decode cX7_init 5 = .ok (.bipush 30, 2) := by decide +kernel
theorem dX7_init_7 : decode cX7_init 7 = .ok (.anewarray 9, 3) := by decide +kernel
theorem dX7_init_10 : decode cX7_init 10 = .ok (.putfield 11, 3) := by decide +kernel
theorem dX7_init_13 : decode cX7_init 13 = .ok (.aload_n 0, 1) := by decide +kernel
theorem dX7_init_14 : decode cX7_init 14 = .ok (.bipush 90, 2) := by decide +kernel
theorem dX7_init_16 : decode cX7_init 16 = .ok (.newarray .int, 2) := by decide +kernel
theorem dX7_init_18 : decode cX7_init 18 = .ok (.putfield 17, 3) := by decide +kernel
theorem dX7_init_21 : decode cX7_init 21 = .ok (.aload_n 0, 1) := by decide +kernel
theorem dX7_init_22 : decode cX7_init 22 = .ok (.aload_n 1, 1) := by decide +kernel
theorem dX7_init_23 : decode cX7_init 23 = .ok (.putfield 21, 3) := by decide +kernel
theorem dX7_init_26 : decode cX7_init 26 = .ok (.aload_n 0, 1) := by decide +kernel
theorem dX7_init_27 : decode cX7_init 27 = .ok (.aload_n 2, 1) := by decide +kernel
theorem dX7_init_28 : decode cX7_init 28 = .ok (.putfield 25, 3) := by decide +kernel
theorem dX7_init_31 : decode cX7_init 31 = .ok (.aload_n 0, 1) := by decide +kernel
theorem dX7_init_32 : decode cX7_init 32 = .ok (.aload_n 3, 1) := by decide +kernel
theorem dX7_init_33 : decode cX7_init 33 = .ok (.putfield 29, 3) := by decide +kernel
theorem dX7_init_36 : decode cX7_init 36 = .ok (.return_, 1) := by decide +kernel
theorem dX8_init_0 : decode cX8_init 0 = .ok (.aload_n 0, 1) := by decide +kernel
theorem dX8_init_1 : decode cX8_init 1 = .ok (.invokespecial 3, 3) := by decide +kernel
theorem dX8_init_4 : decode cX8_init 4 = .ok (.aload_n 0, 1) := by decide +kernel
theorem dX8_init_5 : decode cX8_init 5 = .ok (.sipush 600, 3) := by decide +kernel
theorem dX8_init_8 : decode cX8_init 8 = .ok (.newarray .int, 2) := by decide +kernel
theorem dX8_init_10 : decode cX8_init 10 = .ok (.putfield 9, 3) := by decide +kernel
theorem dX8_init_13 : decode cX8_init 13 = .ok (.return_, 1) := by decide +kernel
theorem dX8_add_0 : decode cX8_add 0 = .ok (.aload_n 0, 1) := by decide +kernel
theorem dX8_add_1 : decode cX8_add 1 = .ok (.getfield 15, 3) := by decide +kernel
theorem dX8_add_4 : decode cX8_add 4 = .ok (.sipush 600, 3) := by decide +kernel
theorem dX8_add_7 : decode cX8_add 7 = .ok (.if_icmp .ge 23, 3) := by decide +kernel
theorem dX8_add_10 : decode cX8_add 10 = .ok (.aload_n 0, 1) := by decide +kernel
theorem dX8_add_11 : decode cX8_add 11 = .ok (.getfield 9, 3) := by decide +kernel
theorem dX8_add_14 : decode cX8_add 14 = .ok (.aload_n 0, 1) := by decide +kernel
theorem dX8_add_15 : decode cX8_add 15 = .ok (.getfield 15, 3) := by decide +kernel
theorem dX8_add_18 : decode cX8_add 18 = .ok (.iload_n 1, 1) := by decide +kernel
theorem dX8_add_19 : decode cX8_add 19 = .ok (.iastore, 1) := by decide +kernel
theorem dX8_add_20 : decode cX8_add 20 = .ok (.aload_n 0, 1) := by decide +kernel
theorem dX8_add_21 : decode cX8_add 21 = .ok (.dup, 1) := by decide +kernel
theorem dX8_add_22 : decode cX8_add 22 = .ok (.getfield 15, 3) := by decide +kernel
theorem dX8_add_25 : decode cX8_add 25 = .ok (.iconst 1, 1) := by decide +kernel
theorem dX8_add_26 : decode cX8_add 26 = .ok (.iadd, 1) := by decide +kernel
theorem dX8_add_27 : decode cX8_add 27 = .ok (.putfield 15, 3) := by decide +kernel
theorem dX8_add_30 : decode cX8_add 30 = .ok (.return_, 1) := by decide +kernel
set_option maxRecDepth 20000 in
theorem ggX8_addFourBytes_X8_add : GoodIn wsX8_addFourBytes wsX8_add := goodIn_r _ [5, 6, 7, 8, 9] (by decide +kernel) (by decide +kernel)
set_option maxRecDepth 20000 in
theorem gX8_addFourBytes_X8_add : GoodIn wsX8_addFourBytes (wsV RX8 19 RX8 yX8_add wsX8_add) := goodIn_app (goodIn_of _ (by decide +kernel)) ggX8_addFourBytes_X8_add
theorem dX8_addFourBytes_0 : decode cX8_addFourBytes 0 = .ok (.bipush 24, 2) := by decide +kernel
theorem dX8_addFourBytes_2 : decode cX8_addFourBytes 2 = .ok (.istore_n 2, 1) := by decide +kernel
theorem dX8_addFourBytes_3 : decode cX8_addFourBytes 3 = .ok (.iload_n 2, 1) := by decide +kernel
theorem dX8_addFourBytes_4 : decode cX8_addFourBytes 4 = .ok (.ifCond .lt 20, 3) := by decide +kernel
theorem dX8_addFourBytes_7 : decode cX8_addFourBytes 7 = .ok (.aload_n 0, 1) := by decide +kernel
theorem dX8_addFourBytes_8 : decode cX8_addFourBytes 8 = .ok (.iload_n 1, 1) := by decide +kernel
theorem dX8_addFourBytes_9 : decode cX8_addFourBytes 9 = .ok (.iload_n 2, 1) := by decide +kernel
theorem dX8_addFourBytes_10 : decode cX8_addFourBytes 10 = .ok (.ishr, 1) := by decide +kernel
theorem dX8_addFourBytes_11 : decode cX8_addFourBytes 11 = .ok (.sipush 255, 3) := by decide +kernel
theorem dX8_addFourBytes_14 : decode cX8_addFourBytes 14 = .ok (.iand, 1) := by decide +kernel
theorem dX8_addFourBytes_15 : decode cX8_addFourBytes 15 = .ok (.invokevirtual 19, 3) := by decide +kernel
theorem dX8_addFourBytes_18 : decode cX8_addFourBytes 18 = .ok (.iinc 2 (-8), 3) := by decide +kernel
theorem dX8_addFourBytes_21 : decode cX8_addFourBytes 21 = .ok (.goto (-18), 3) := by decide +kernel
theorem dX8_addFourBytes_24 : decode cX8_addFourBytes 24 = .ok (.return_, 1) := by decide +kernel
set_option maxRecDepth 20000 in
theorem ggX8_addLetters_J0_length_8abf5 : GoodIn wsX8_addLetters wsJ0_length_8abf5 := goodIn_r _ [5, 6, 7, 8, 9, 4, 10, 11, 12, 57, 58, 59, 60] (by decide +kernel) (by decide +kernel)
set_option maxRecDepth 20000 in
theorem gX8_addLetters_J0_length_8abf5 : GoodIn wsX8_addLetters (wsV RX8 23 RJ0 yJ0_length_8abf5 wsJ0_length_8abf5) := goodIn_app (goodIn_of _ (by decide +kernel)) ggX8_addLetters_J0_length_8abf5
set_option maxRecDepth 20000 in
theorem ggX8_addLetters_J0_charAt_5068e : GoodIn wsX8_addLetters wsJ0_charAt_5068e := goodIn_r _ [16, 6, 17, 18, 19, 4, 20, 11, 12, 21, 22, 23, 24, 25, 26, 27, 28, 29, 30, 31, 32, 33, 34, 35, 36, 37, 38, 39, 40, 41, 42, 43, 44, 45, 46, 47, 48, 49, 57, 58, 59, 60] (by decide +kernel) (by decide +kernel)
set_option maxRecDepth 20000 in
theorem gX8_addLetters_J0_charAt_5068e : GoodIn wsX8_addLetters (wsV RX8 28 RJ0 yJ0_charAt_5068e wsJ0_charAt_5068e) := goodIn_app (goodIn_of _ (by decide +kernel)) ggX8_addLetters_J0_charAt_5068e
set_option maxRecDepth 20000 in
theorem ggX8_addLetters_X8_add : GoodIn wsX8_addLetters wsX8_add := goodIn_r _ [54, 55, 56, 61, 62] (by decide +kernel) (by decide +kernel)
set_option maxRecDepth 20000 in
theorem gX8_addLetters_X8_add : GoodIn wsX8_addLetters (wsV RX8 19 RX8 yX8_add wsX8_add) := goodIn_app (goodIn_of _ (by decide +kernel)) ggX8_addLetters_X8_add
theorem dX8_addLetters_0 : decode cX8_addLetters 0 = .ok (.iconst 0, 1) := by decide +kernel
theorem dX8_addLetters_1 : decode cX8_addLetters 1 = .ok (.istore_n 2, 1) := by decide +kernel
theorem dX8_addLetters_2 : decode cX8_addLetters 2 = .ok (.iload_n 2, 1) := by decide +kernel
theorem dX8_addLetters_3 : decode cX8_addLetters 3 = .ok (.aload_n 1, 1) := by decide +kernel
theorem dX8_addLetters_4 : decode cX8_addLetters 4 = .ok (.invokevirtual 23, 3) := by decide +kernel
theorem dX8_addLetters_7 : decode cX8_addLetters 7 = .ok (.if_icmp .ge 18, 3) := by decide +kernel
theorem dX8_addLetters_10 : decode cX8_addLetters 10 = .ok (.aload_n 0, 1) := by decide +kernel
theorem dX8_addLetters_11 : decode cX8_addLetters 11 = .ok (.aload_n 1, 1) := by decide +kernel
theorem dX8_addLetters_12 : decode cX8_addLetters 12 = .ok (.iload_n 2, 1) := by decide +kernel
theorem dX8_addLetters_13 : decode cX8_addLetters 13 = .ok (.invokevirtual 28, 3) := by decide +kernel
theorem dX8_addLetters_16 : decode cX8_addLetters 16 = .ok (.invokevirtual 19, 3) := by decide +kernel
theorem dX8_addLetters_19 : decode cX8_addLetters 19 = .ok (.iinc 2 1, 3) := by decide +kernel
theorem dX8_addLetters_22 : decode cX8_addLetters 22 = .ok (.goto (-20), 3) := by decide +kernel
theorem dX8_addLetters_25 : decode cX8_addLetters 25 = .ok (.return_, 1) := by decide +kernel
set_option maxRecDepth 20000 in
theorem ggX10_init_X8_init : GoodIn wsX10_init wsX8_init := goodIn_r _ [39, 40, 2, 3, 41, 42, 252, 253] (by decide +kernel) (by decide +kernel)
set_option maxRecDepth 20000 in
theorem gX10_init_X8_init_n9 : GoodIn wsX10_init (wsX8_init) := ggX10_init_X8_init
set_option maxRecDepth 20000 in
theorem ggX10_init_X1_init : GoodIn wsX10_init wsX1_init := goodIn_r _ [44, 45, 2, 3, 41, 46, 47, 48, 49, 264, 265, 266, 267, 268, 269] (by decide +kernel) (by decide +kernel)
set_option maxRecDepth 20000 in
theorem gX10_init_X1_init_n21 : GoodIn wsX10_init (wsX1_init) := ggX10_init_X1_init
set_option maxRecDepth 20000 in
theorem ggX10_init_X5_init : GoodIn wsX10_init wsX5_init := goodIn_r _ [52, 53, 2, 3, 54, 270, 271, 272, 273, 274, 275, 276] (by decide +kernel) (by decide +kernel)
set_option maxRecDepth 20000 in
theorem gX10_init_X5_init : GoodIn wsX10_init (wsX5_init) := ggX10_init_X5_init
set_option maxRecDepth 20000 in
theorem ggX10_init_X3_init : GoodIn wsX10_init wsX3_init := goodIn_r _ [57, 58, 2, 3, 41, 59, 60, 61, 62, 277, 278, 279, 280] (by decide +kernel) (by decide +kernel)
set_option maxRecDepth 20000 in
theorem gX10_init_X3_init : GoodIn wsX10_init (wsX3_init) := ggX10_init_X3_init
set_option maxRecDepth 20000 in
theorem ggX10_init_X6_init : GoodIn wsX10_init wsX6_init := goodIn_r _ [65, 66, 2, 3, 41, 67, 68, 281, 282] (by decide +kernel) (by decide +kernel)
set_option maxRecDepth 20000 in
theorem gX10_init_X6_init : GoodIn wsX10_init (wsX6_init) := ggX10_init_X6_init
set_option maxRecDepth 20000 in
theorem ggX10_init_X2_init : GoodIn wsX10_init wsX2_init := goodIn_r _ [71, 72, 2, 3, 41, 73, 74, 75, 283, 284, 285] (by decide +kernel) (by decide +kernel)
set_option maxRecDepth 20000 in
theorem gX10_init_X2_init : GoodIn wsX10_init (wsX2_init) := ggX10_init_X2_init
set_option maxRecDepth 20000 in
theorem ggX10_init_X7_init : GoodIn wsX10_init wsX7_init := goodIn_r _ [78, 79, 2, 3, 80, 81, 41, 82, 83, 84, 85, 286, 287, 288, 289, 290, 291] (by decide +kernel) (by decide +kernel)
set_option maxRecDepth 20000 in
theorem gX10_init_X7_init : GoodIn wsX10_init (wsX7_init) := ggX10_init_X7_init
set_option maxRecDepth 20000 in
theorem ggX10_init_X4_init : GoodIn wsX10_init wsX4_init := goodIn_r _ [87, 88, 2, 3, 89, 90, 41, 91, 92, 292, 293, 294, 295, 296] (by decide +kernel) (by decide +kernel)
set_option maxRecDepth 20000 in
theorem gX10_init_X4_init_n72 : GoodIn wsX10_init (wsX4_init) := ggX10_init_X4_init
set_option maxRecDepth 20000 in
theorem ggX10_init_X8_addLetters : GoodIn wsX10_init wsX8_addLetters := goodIn_r _ [96, 97, 98, 99, 100, 101, 102, 103, 104, 105, 106, 107, 108, 109, 110, 111, 112, 113, 114, 115, 116, 117, 118, 119, 120, 121, 122, 123, 124, 125, 126, 127, 128, 129, 130, 131, 132, 133, 134, 135, 136, 137, 138, 139, 140, 141, 142, 143, 144, 145, 146, 147, 148, 6, 149, 150, 42, 297, 298, 299, 300, 252, 253] (by decide +kernel) (by decide +kernel)
set_option maxRecDepth 20000 in
theorem gX10_init_X8_addLetters : GoodIn wsX10_init (wsV RX10 79 RX8 yX8_addLetters wsX8_addLetters) := goodIn_app (goodIn_of _ (by decide +kernel)) ggX10_init_X8_addLetters
set_option maxRecDepth 20000 in
theorem ggX10_init_X10_adoptSetup : GoodIn wsX10_init wsX10_adoptSetup := goodIn_r _ [155, 17, 13, 7, 156, 12, 37, 157, 158, 159, 16, 160, 161, 162, 163, 164, 165, 166, 167, 168, 169, 170, 171, 172, 173, 174, 175, 176, 54, 177, 178, 179, 180, 181, 182, 183, 184, 185, 186, 187, 188, 189, 190, 98, 99, 100, 101, 102, 103, 104, 105, 106, 107, 108, 191, 110, 111, 112, 113, 114, 115, 116, 117, 118, 119, 120, 121, 122, 123, 124, 125, 126, 127, 128, 129, 130, 131, 132, 133, 134, 135, 136, 137, 138, 139, 140, 141, 142, 143, 144, 145, 192, 193, 194, 195, 196, 197, 198, 199, 200, 201, 202, 203, 204, 205, 206, 207, 208, 209, 210, 211, 212, 213, 214, 215, 216, 217, 218, 11, 219, 220, 221, 222, 223, 224, 47, 46, 225, 226, 227, 228, 229, 230, 231, 232, 233, 48, 234, 235, 236, 237, 238, 239, 240, 241, 242, 49, 243, 244, 245, 246, 247, 248, 249, 36, 250, 251, 90, 254, 255, 256, 257, 258, 259, 260, 261, 262, 263, 252, 253, 270, 271, 272, 273, 274, 275, 276, 264, 265, 266, 267, 268, 269, 297, 298, 299, 300, 292, 293, 294, 295, 296] (by decide +kernel) (by decide +kernel)
set_option maxRecDepth 20000 in
theorem gX10_init_X10_adoptSetup : GoodIn wsX10_init (wsV RX10 83 RX10 yX10_adoptSetup wsX10_adoptSetup) := goodIn_app (goodIn_of _ (by decide +kernel)) ggX10_init_X10_adoptSetup
theorem dX10_init_0 : decode cX10_init 0 = .ok (.aload_n 0, 1) := by decide +kernel
theorem dX10_init_1 : decode cX10_init 1 = .ok (.invokespecial 1, 3) := by decide +kernel
theorem dX10_init_4 : decode cX10_init 4 = .ok (.aload_n 0, 1) := by decide +kernel
theorem dX10_init_5 : decode cX10_init 5 = .ok (.new 7, 3) := by decide +kernel
theorem dX10_init_8 : decode cX10_init 8 = .ok (.dup, 1) := by decide +kernel
theorem dX10_init_9 : decode cX10_init 9 = .ok (.invokespecial 9, 3) := by decide +kernel
theorem dX10_init_12 : decode cX10_init 12 = .ok (.putfield 10, 3) := by decide +kernel
theorem dX10_init_15 : decode cX10_init 15 = .ok (.aload_n 0, 1) := by decide +kernel
theorem dX10_init_16 : decode cX10_init 16 = .ok (.new 7, 3) := by decide +kernel
theorem dX10_init_19 : decode cX10_init 19 = .ok (.dup, 1) := by decide +kernel
theorem dX10_init_20 : decode cX10_init 20 = .ok (.invokespecial 9, 3) := by decide +kernel
theorem dX10_init_23 : decode cX10_init 23 = .ok (.putfield 16, 3) := by decide +kernel
theorem dX10_init_26 : decode cX10_init 26 = .ok (.aload_n 0, 1) := by decide +kernel
theorem dX10_init_27 : decode cX10_init 27 = .ok (.new 19, 3) := by decide +kernel
theorem dX10_init_30 : decode cX10_init 30 = .ok (.dup, 1) := by decide +kernel
theorem dX10_init_31 : decode cX10_init 31 = .ok (.invokespecial 21, 3) := by decide +kernel
theorem dX10_init_34 : decode cX10_init 34 = .ok (.putfield 22, 3) := by decide +kernel
theorem dX10_init_37 : decode cX10_init 37 = .ok (.aload_n 0, 1) := by decide +kernel
theorem dX10_init_38 : decode cX10_init 38 = .ok (.new 19, 3) := by decide +kernel
theorem dX10_init_41 : decode cX10_init 41 = .ok (.dup, 1) := by decide +kernel
theorem dX10_init_42 : decode cX10_init 42 = .ok (.invokespecial 21, 3) := by decide +kernel
theorem dX10_init_45 : decode cX10_init 45 = .ok (.putfield 26, 3) := by decide +kernel
theorem dX10_init_48 : decode cX10_init 48 = .ok (.aload_n 0, 1) := by decide +kernel
theorem dX10_init_49 : decode cX10_init 49 = .ok (.new 29, 3) := by decide +kernel
theorem dX10_init_52 : decode cX10_init 52 = .ok (.dup, 1) := by decide +kernel
theorem dX10_init_53 : decode cX10_init 53 = .ok (.aload_n 0, 1) := by decide +kernel
theorem dX10_init_54 : decode cX10_init 54 = .ok (.getfield 10, 3) := by decide +kernel
theorem dX10_init_57 : decode cX10_init 57 = .ok (.invokespecial 31, 3) := by decide +kernel
theorem dX10_init_60 : decode cX10_init 60 = .ok (.putfield 34, 3) := by decide +kernel
theorem dX10_init_63 : decode cX10_init 63 = .ok (.aload_n 0, 1) := by decide +kernel
theorem dX10_init_64 : decode cX10_init 64 = .ok (.new 38, 3) := by decide +kernel
theorem dX10_init_67 : decode cX10_init 67 = .ok (.dup, 1) := by decide +kernel
theorem dX10_init_68 : decode cX10_init 68 = .ok (.aload_n 0, 1) := by decide +kernel
theorem dX10_init_69 : decode cX10_init 69 = .ok (.getfield 22, 3) := by decide +kernel
theorem dX10_init_72 : decode cX10_init 72 = .ok (.invokespecial 40, 3) := by decide +kernel
theorem dX10_init_75 : decode cX10_init 75 = .ok (.putfield 43, 3) := by decide +kernel
theorem dX10_init_78 : decode cX10_init 78 = .ok (.aload_n 0, 1) := by decide +kernel
theorem dX10_init_79 : decode cX10_init 79 = .ok (.new 47, 3) := by decide +kernel
theorem dX10_init_82 : decode cX10_init 82 = .ok (.dup, 1) := by decide +kernel
theorem dX10_init_83 : decode cX10_init 83 = .ok (.aload_n 0, 1) := by decide +kernel
theorem dX10_init_84 : decode cX10_init 84 = .ok (.getfield 22, 3) := by decide +kernel
theorem dX10_init_87 : decode cX10_init 87 = .ok (.invokespecial 49, 3) := by decide +kernel
theorem dX10_init_90 : decode cX10_init 90 = .ok (.putfield 50, 3) := by decide +kernel
theorem dX10_init_93 : decode cX10_init 93 = .ok (.aload_n 0, 1) := by decide +kernel
theorem dX10_init_94 : decode cX10_init 94 = .ok (.new 54, 3) := by decide +kernel
theorem dX10_init_97 : decode cX10_init 97 = .ok (.dup, 1) := by decide +kernel
theorem dX10_init_98 : decode cX10_init 98 = .ok (.aload_n 0, 1) := by decide +kernel
theorem dX10_init_99 : decode cX10_init 99 = .ok (.getfield 22, 3) := by decide +kernel
theorem dX10_init_102 : decode cX10_init 102 = .ok (.invokespecial 56, 3) := by decide +kernel
theorem dX10_init_105 : decode cX10_init 105 = .ok (.putfield 57, 3) := by decide +kernel
theorem dX10_init_108 : decode cX10_init 108 = .ok (.aload_n 0, 1) := by decide +kernel
theorem dX10_init_109 : decode cX10_init 109 = .ok (.new 61, 3) := by decide +kernel
theorem dX10_init_112 : decode cX10_init 112 = .ok (.dup, 1) := by decide +kernel
theorem dX10_init_113 : decode cX10_init 113 = .ok (.aload_n 0, 1) := by decide +kernel
theorem dX10_init_114 : decode cX10_init 114 = .ok (.getfield 22, 3) := by decide +kernel
theorem dX10_init_117 : decode cX10_init 117 = .ok (.aload_n 0, 1) := by decide +kernel
theorem dX10_init_118 : decode cX10_init 118 = .ok (.getfield 43, 3) := by decide +kernel
theorem dX10_init_121 : decode cX10_init 121 = .ok (.aload_n 0, 1) := by decide +kernel
theorem dX10_init_122 : decode cX10_init 122 = .ok (.getfield 50, 3) := by decide +kernel
theorem dX10_init_125 : decode cX10_init 125 = .ok (.invokespecial 63, 3) := by decide +kernel
theorem dX10_init_128 : decode cX10_init 128 = .ok (.putfield 66, 3) := by decide +kernel
theorem dX10_init_131 : decode cX10_init 131 = .ok (.aload_n 0, 1) := by decide +kernel
theorem dX10_init_132 : decode cX10_init 132 = .ok (.new 70, 3) := by decide +kernel
theorem dX10_init_135 : decode cX10_init 135 = .ok (.dup, 1) := by decide +kernel
theorem dX10_init_136 : decode cX10_init 136 = .ok (.invokespecial 72, 3) := by decide +kernel
theorem dX10_init_139 : decode cX10_init 139 = .ok (.putfield 73, 3) := by decide +kernel
theorem dX10_init_142 : decode cX10_init 142 = .ok (.aload_n 0, 1) := by decide +kernel
theorem dX10_init_143 : decode cX10_init 143 = .ok (.getfield 10, 3) := by decide +kernel
theorem dX10_init_146 : decode cX10_init 146 = .ok (.ldc 77, 2) := by decide +kernel
theorem dX10_init_148 : decode cX10_init 148 = .ok (.invokevirtual 79, 3) := by decide +kernel
theorem dX10_init_151 : decode cX10_init 151 = .ok (.aload_n 0, 1) := by decide +kernel
theorem dX10_init_152 : decode cX10_init 152 = .ok (.invokevirtual 83, 3) := by decide +kernel
theorem dX10_init_155 : decode cX10_init 155 = .ok (.pop, 1) := by decide +kernel
theorem dX10_init_156 : decode cX10_init 156 = .ok (.return_, 1) := by decide +kernel
set_option maxRecDepth 20000 in
theorem ggX10_append_X8_addFourBytes : GoodIn wsX10_append wsX8_addFourBytes := goodIn_r _ [9, 10, 11, 12, 8, 13, 14, 15, 26, 27] (by decide +kernel) (by decide +kernel)
set_option maxRecDepth 20000 in
theorem gX10_append_X8_addFourBytes : GoodIn wsX10_append (wsV RX10 97 RX8 yX8_addFourBytes wsX8_addFourBytes) := goodIn_app (goodIn_of _ (by decide +kernel)) ggX10_append_X8_addFourBytes
theorem dX10_append_0 : decode cX10_append 0 = .ok (.aload_n 0, 1) := by decide +kernel
theorem dX10_append_1 : decode cX10_append 1 = .ok (.getfield 10, 3) := by decide +kernel
theorem dX10_append_4 : decode cX10_append 4 = .ok (.getfield 87, 3) := by decide +kernel
theorem dX10_append_7 : decode cX10_append 7 = .ok (.bipush 20, 2) := by decide +kernel
theorem dX10_append_9 : decode cX10_append 9 = .ok (.iadd, 1) := by decide +kernel
theorem dX10_append_10 : decode cX10_append 10 = .ok (.sipush 600, 3) := by decide +kernel
theorem dX10_append_13 : decode cX10_append 13 = .ok (.if_icmp .le 13, 3) := by decide +kernel
theorem dX10_append_16 : decode cX10_append 16 = .ok (.new 91, 3) := by decide +kernel
theorem dX10_append_19 : decode cX10_append 19 = .ok (.dup, 1) := by decide +kernel
theorem dX10_append_20 : decode cX10_append 20 = .ok (.ldc 93, 2) := by decide +kernel
theorem dX10_append_22 : decode cX10_append 22 = .ok (.invokespecial 95, 3) := by decide +kernel
theorem dX10_append_25 : decode cX10_append 25 = .ok (.athrow, 1) := by decide +kernel
theorem dX10_append_26 : decode cX10_append 26 = .ok (.aload_n 0, 1) := by decide +kernel
theorem dX10_append_27 : decode cX10_append 27 = .ok (.getfield 10, 3) := by decide +kernel
theorem dX10_append_30 : decode cX10_append 30 = .ok (.iload_n 1, 1) := by decide +kernel
theorem dX10_append_31 : decode cX10_append 31 = .ok (.invokevirtual 97, 3) := by decide +kernel
theorem dX10_append_34 : decode cX10_append 34 = .ok (.aload_n 0, 1) := by decide +kernel
theorem dX10_append_35 : decode cX10_append 35 = .ok (.getfield 10, 3) := by decide +kernel
theorem dX10_append_38 : decode cX10_append 38 = .ok (.iload_n 2, 1) := by decide +kernel
theorem dX10_append_39 : decode cX10_append 39 = .ok (.invokevirtual 97, 3) := by decide +kernel
theorem dX10_append_42 : decode cX10_append 42 = .ok (.aload_n 0, 1) := by decide +kernel
theorem dX10_append_43 : decode cX10_append 43 = .ok (.getfield 10, 3) := by decide +kernel
theorem dX10_append_46 : decode cX10_append 46 = .ok (.iload_n 3, 1) := by decide +kernel
theorem dX10_append_47 : decode cX10_append 47 = .ok (.invokevirtual 97, 3) := by decide +kernel
theorem dX10_append_50 : decode cX10_append 50 = .ok (.aload_n 0, 1) := by decide +kernel
theorem dX10_append_51 : decode cX10_append 51 = .ok (.getfield 10, 3) := by decide +kernel
theorem dX10_append_54 : decode cX10_append 54 = .ok (.iload 4, 2) := by decide +kernel
theorem dX10_append_56 : decode cX10_append 56 = .ok (.invokevirtual 97, 3) := by decide +kernel
theorem dX10_append_59 : decode cX10_append 59 = .ok (.aload_n 0, 1) := by decide +kernel
theorem dX10_append_60 : decode cX10_append 60 = .ok (.getfield 10, 3) := by decide +kernel
theorem dX10_append_63 : decode cX10_append 63 = .ok (.iload 5, 2) := by decide +kernel
theorem dX10_append_65 : decode cX10_append 65 = .ok (.invokevirtual 97, 3) := by decide +kernel
theorem dX10_append_68 : decode cX10_append 68 = .ok (.aload_n 0, 1) := by decide +kernel
theorem dX10_append_69 : decode cX10_append 69 = .ok (.getfield 10, 3) := by decide +kernel
theorem dX10_append_72 : decode cX10_append 72 = .ok (.getfield 87, 3) := by decide +kernel
theorem dX10_append_75 : decode cX10_append 75 = .ok (.ireturn, 1) := by decide +kernel
theorem dX10_truncate_0 : decode cX10_truncate 0 = .ok (.iload_n 1, 1) := by decide +kernel
theorem dX10_truncate_1 : decode cX10_truncate 1 = .ok (.ifCond .lt 14, 3) := by decide +kernel
theorem dX10_truncate_4 : decode cX10_truncate 4 = .ok (.iload_n 1, 1) := by decide +kernel
theorem dX10_truncate_5 : decode cX10_truncate 5 = .ok (.aload_n 0, 1) := by decide +kernel
theorem dX10_truncate_6 : decode cX10_truncate 6 = .ok (.getfield 10, 3) := by decide +kernel
theorem dX10_truncate_9 : decode cX10_truncate 9 = .ok (.getfield 87, 3) := by decide +kernel
theorem dX10_truncate_12 : decode cX10_truncate 12 = .ok (.if_icmp .le 13, 3) := by decide +kernel
theorem dX10_truncate_15 : decode cX10_truncate 15 = .ok (.new 101, 3) := by decide +kernel
theorem dX10_truncate_18 : decode cX10_truncate 18 = .ok (.dup, 1) := by decide +kernel
theorem dX10_truncate_19 : decode cX10_truncate 19 = .ok (.ldc 103, 2) := by decide +kernel
theorem dX10_truncate_21 : decode cX10_truncate 21 = .ok (.invokespecial 105, 3) := by decide +kernel
theorem dX10_truncate_24 : decode cX10_truncate 24 = .ok (.athrow, 1) := by decide +kernel
theorem dX10_truncate_25 : decode cX10_truncate 25 = .ok (.aload_n 0, 1) := by decide +kernel
theorem dX10_truncate_26 : decode cX10_truncate 26 = .ok (.getfield 10, 3) := by decide +kernel
theorem dX10_truncate_29 : decode cX10_truncate 29 = .ok (.iload_n 1, 1) := by decide +kernel
theorem dX10_truncate_30 : decode cX10_truncate 30 = .ok (.putfield 87, 3) := by decide +kernel
theorem dX10_truncate_33 : decode cX10_truncate 33 = .ok (.iload_n 1, 1) := by decide +kernel
theorem dX10_truncate_34 : decode cX10_truncate 34 = .ok (.ireturn, 1) := by decide +kernel
set_option maxRecDepth 20000 in
theorem ggX10_load_X10_adoptSetup : GoodIn wsX10_load wsX10_adoptSetup := goodIn_r _ [9, 10, 11, 12, 13, 3, 14, 15, 16, 17, 18, 19, 20, 21, 22, 23, 24, 25, 26, 27, 28, 29, 30, 31, 32, 33, 34, 35, 36, 37, 38, 39, 40, 41, 42, 43, 44, 45, 46, 47, 48, 49, 50, 51, 52, 53, 54, 55, 56, 57, 58, 59, 60, 61, 62, 63, 64, 65, 66, 67, 68, 69, 70, 71, 72, 73, 74, 75, 76, 77, 78, 79, 80, 81, 82, 83, 84, 85, 86, 87, 88, 89, 90, 91, 92, 93, 94, 95, 96, 97, 98, 99, 100, 101, 102, 103, 104, 105, 106, 107, 108, 109, 110, 111, 112, 113, 114, 115, 116, 117, 118, 119, 120, 121, 122, 123, 124, 125, 126, 127, 128, 129, 130, 131, 132, 133, 134, 135, 136, 137, 138, 139, 140, 141, 142, 143, 144, 145, 146, 147, 148, 149, 150, 151, 152, 153, 154, 155, 156, 157, 158, 159, 160, 161, 162, 163, 164, 165, 166, 167, 168, 169, 170, 171, 172, 173, 174, 175, 182, 183, 184, 185, 186, 187, 188, 189, 190, 176, 177, 178, 179, 180, 181, 191, 192, 193, 194, 195, 196, 197, 198, 199] (by decide +kernel) (by decide +kernel)
set_option maxRecDepth 20000 in
theorem gX10_load_X10_adoptSetup : GoodIn wsX10_load (wsV RX10 83 RX10 yX10_adoptSetup wsX10_adoptSetup) := goodIn_app (goodIn_of _ (by decide +kernel)) ggX10_load_X10_adoptSetup
theorem dX10_load_0 : decode cX10_load 0 = .ok (.aload_n 0, 1) := by decide +kernel
theorem dX10_load_1 : decode cX10_load 1 = .ok (.invokevirtual 83, 3) := by decide +kernel
theorem dX10_load_4 : decode cX10_load 4 = .ok (.ifCond .ne 13, 3) := by decide +kernel
theorem dX10_load_7 : decode cX10_load 7 = .ok (.new 101, 3) := by decide +kernel
theorem dX10_load_10 : decode cX10_load 10 = .ok (.dup, 1) := by decide +kernel
theorem dX10_load_11 : decode cX10_load 11 = .ok (.ldc 106, 2) := by decide +kernel
theorem dX10_load_13 : decode cX10_load 13 = .ok (.invokespecial 105, 3) := by decide +kernel
theorem dX10_load_16 : decode cX10_load 16 = .ok (.athrow, 1) := by decide +kernel
theorem dX10_load_17 : decode cX10_load 17 = .ok (.aload_n 0, 1) := by decide +kernel
theorem dX10_load_18 : decode cX10_load 18 = .ok (.getfield 22, 3) := by decide +kernel
theorem dX10_load_21 : decode cX10_load 21 = .ok (.getfield 108, 3) := by decide +kernel
theorem dX10_load_24 : decode cX10_load 24 = .ok (.ireturn, 1) := by decide +kernel
theorem dX10_cellCount_0 : decode cX10_cellCount 0 = .ok (.aload_n 0, 1) := by decide +kernel
theorem dX10_cellCount_1 : decode cX10_cellCount 1 = .ok (.getfield 22, 3) := by decide +kernel
theorem dX10_cellCount_4 : decode cX10_cellCount 4 = .ok (.getfield 117, 3) := by decide +kernel
theorem dX10_cellCount_7 : decode cX10_cellCount 7 = .ok (.ireturn, 1) := by decide +kernel
theorem dX10_siblingCount_0 : decode cX10_siblingCount 0 = .ok (.aload_n 0, 1) := by decide +kernel
theorem dX10_siblingCount_1 : decode cX10_siblingCount 1 = .ok (.getfield 22, 3) := by decide +kernel
theorem dX10_siblingCount_4 : decode cX10_siblingCount 4 = .ok (.getfield 108, 3) := by decide +kernel
theorem dX10_siblingCount_7 : decode cX10_siblingCount 7 = .ok (.ireturn, 1) := by decide +kernel
set_option maxRecDepth 20000 in
theorem ggX10_value_X10_requireSibling : GoodIn wsX10_value wsX10_requireSibling := goodIn_ca (goodIn_r _ [6, 7, 8, 1, 9, 10, 11, 12, 13, 14, 29, 30, 31, 32, 33, 34, 35, 36, 37, 38, 39, 40, 41, 42, 43, 44] (by decide +kernel) (by decide +kernel)) (goodIn_sub (fun _ h => List.mem_cons_of_mem _ (List.mem_append_right _ h)) (by decide +kernel))
set_option maxRecDepth 20000 in
theorem gX10_value_X10_requireSibling : GoodIn wsX10_value (wsV RX10 120 RX10 yX10_requireSibling wsX10_requireSibling) := goodIn_app (goodIn_of _ (by decide +kernel)) ggX10_value_X10_requireSibling
set_option maxRecDepth 20000 in
theorem ggX10_value_X10_requireCell : GoodIn wsX10_value wsX10_requireCell := goodIn_ca (goodIn_r _ [18, 7, 8, 1, 19, 20, 21, 12, 22, 23, 29, 30, 31, 32, 33, 34, 35, 36, 37, 38, 39, 40, 41, 42, 43, 44] (by decide +kernel) (by decide +kernel)) (goodIn_sub (fun _ h => List.mem_cons_of_mem _ (List.mem_append_right _ h)) (by decide +kernel))
set_option maxRecDepth 20000 in
theorem gX10_value_X10_requireCell : GoodIn wsX10_value (wsV RX10 144 RX10 yX10_requireCell wsX10_requireCell) := goodIn_app (goodIn_of _ (by decide +kernel)) ggX10_value_X10_requireCell
set_option maxRecDepth 20000 in
theorem ggX10_value_X1_valueOf : GoodIn wsX10_value wsX1_valueOf := goodIn_r _ [27, 28, 39, 40, 41, 42, 43, 44] (by decide +kernel) (by decide +kernel)
set_option maxRecDepth 20000 in
theorem gX10_value_X1_valueOf : GoodIn wsX10_value (wsV RX10 147 RX1 yX1_valueOf wsX1_valueOf) := goodIn_app (goodIn_of _ (by decide +kernel)) ggX10_value_X1_valueOf
theorem dX10_value_0 : decode cX10_value 0 = .ok (.aload_n 0, 1) := by decide +kernel
theorem dX10_value_1 : decode cX10_value 1 = .ok (.iload_n 1, 1) := by decide +kernel
theorem dX10_value_2 : decode cX10_value 2 = .ok (.invokevirtual 120, 3) := by decide +kernel
theorem dX10_value_5 : decode cX10_value 5 = .ok (.aload_n 0, 1) := by decide +kernel
theorem dX10_value_6 : decode cX10_value 6 = .ok (.iload_n 2, 1) := by decide +kernel
theorem dX10_value_7 : decode cX10_value 7 = .ok (.invokevirtual 144, 3) := by decide +kernel
theorem dX10_value_10 : decode cX10_value 10 = .ok (.aload_n 0, 1) := by decide +kernel
theorem dX10_value_11 : decode cX10_value 11 = .ok (.getfield 22, 3) := by decide +kernel
theorem dX10_value_14 : decode cX10_value 14 = .ok (.iload_n 1, 1) := by decide +kernel
theorem dX10_value_15 : decode cX10_value 15 = .ok (.iload_n 2, 1) := by decide +kernel
theorem dX10_value_16 : decode cX10_value 16 = .ok (.invokevirtual 147, 3) := by decide +kernel
theorem dX10_value_19 : decode cX10_value 19 = .ok (.ireturn, 1) := by decide +kernel
set_option maxRecDepth 20000 in
theorem ggX10_owner_X10_requireCell : GoodIn wsX10_owner wsX10_requireCell := goodIn_ca (goodIn_r _ [7, 8, 9, 1, 10, 11, 12, 13, 14, 15, 16, 17, 18, 19, 20, 21, 22, 23, 24, 25, 26, 27, 28, 29, 30, 31] (by decide +kernel) (by decide +kernel)) (goodIn_sub (fun _ h => List.mem_cons_of_mem _ (List.mem_append_right _ h)) (by decide +kernel))
set_option maxRecDepth 20000 in
theorem gX10_owner_X10_requireCell : GoodIn wsX10_owner (wsV RX10 144 RX10 yX10_requireCell wsX10_requireCell) := goodIn_app (goodIn_of _ (by decide +kernel)) ggX10_owner_X10_requireCell
theorem dX10_owner_0 : decode cX10_owner 0 = .ok (.aload_n 0, 1) := by decide +kernel
theorem dX10_owner_1 : decode cX10_owner 1 = .ok (.iload_n 1, 1) := by decide +kernel
theorem dX10_owner_2 : decode cX10_owner 2 = .ok (.invokevirtual 144, 3) := by decide +kernel
theorem dX10_owner_5 : decode cX10_owner 5 = .ok (.aload_n 0, 1) := by decide +kernel
theorem dX10_owner_6 : decode cX10_owner 6 = .ok (.getfield 22, 3) := by decide +kernel
theorem dX10_owner_9 : decode cX10_owner 9 = .ok (.getfield 151, 3) := by decide +kernel
theorem dX10_owner_12 : decode cX10_owner 12 = .ok (.iload_n 1, 1) := by decide +kernel
theorem dX10_owner_13 : decode cX10_owner 13 = .ok (.iaload, 1) := by decide +kernel
theorem dX10_owner_14 : decode cX10_owner 14 = .ok (.ireturn, 1) := by decide +kernel
set_option maxRecDepth 20000 in
theorem ggX10_worthOfShare_X10_requireSibling : GoodIn wsX10_worthOfShare wsX10_requireSibling := goodIn_ca (goodIn_r _ [7, 8, 9, 1, 10, 11, 12, 13, 14, 15, 22, 23, 24, 25, 26, 27, 28, 29, 30, 31, 32, 33, 34, 35, 36, 37] (by decide +kernel) (by decide +kernel)) (goodIn_sub (fun _ h => List.mem_cons_of_mem _ (List.mem_append_right _ h)) (by decide +kernel))
set_option maxRecDepth 20000 in
theorem gX10_worthOfShare_X10_requireSibling : GoodIn wsX10_worthOfShare (wsV RX10 120 RX10 yX10_requireSibling wsX10_requireSibling) := goodIn_app (goodIn_of _ (by decide +kernel)) ggX10_worthOfShare_X10_requireSibling
set_option maxRecDepth 20000 in
theorem ggX10_worthOfShare_X1_worthOfOwned : GoodIn wsX10_worthOfShare wsX1_worthOfOwned := goodIn_r _ [19, 20, 21, 32, 33, 34, 35, 36, 37] (by decide +kernel) (by decide +kernel)
set_option maxRecDepth 20000 in
theorem gX10_worthOfShare_X1_worthOfOwned : GoodIn wsX10_worthOfShare (wsV RX10 166 RX1 yX1_worthOfOwned wsX1_worthOfOwned) := goodIn_app (goodIn_of _ (by decide +kernel)) ggX10_worthOfShare_X1_worthOfOwned
theorem dX10_worthOfShare_0 : decode cX10_worthOfShare 0 = .ok (.aload_n 0, 1) := by decide +kernel
theorem dX10_worthOfShare_1 : decode cX10_worthOfShare 1 = .ok (.iload_n 1, 1) := by decide +kernel
theorem dX10_worthOfShare_2 : decode cX10_worthOfShare 2 = .ok (.invokevirtual 120, 3) := by decide +kernel
theorem dX10_worthOfShare_5 : decode cX10_worthOfShare 5 = .ok (.aload_n 0, 1) := by decide +kernel
theorem dX10_worthOfShare_6 : decode cX10_worthOfShare 6 = .ok (.iload_n 2, 1) := by decide +kernel
theorem dX10_worthOfShare_7 : decode cX10_worthOfShare 7 = .ok (.invokevirtual 120, 3) := by decide +kernel
theorem dX10_worthOfShare_10 : decode cX10_worthOfShare 10 = .ok (.aload_n 0, 1) := by decide +kernel
theorem dX10_worthOfShare_11 : decode cX10_worthOfShare 11 = .ok (.getfield 22, 3) := by decide +kernel
theorem dX10_worthOfShare_14 : decode cX10_worthOfShare 14 = .ok (.aload_n 0, 1) := by decide +kernel
theorem dX10_worthOfShare_15 : decode cX10_worthOfShare 15 = .ok (.getfield 22, 3) := by decide +kernel
theorem dX10_worthOfShare_18 : decode cX10_worthOfShare 18 = .ok (.getfield 151, 3) := by decide +kernel
theorem dX10_worthOfShare_21 : decode cX10_worthOfShare 21 = .ok (.iload_n 1, 1) := by decide +kernel
theorem dX10_worthOfShare_22 : decode cX10_worthOfShare 22 = .ok (.iload_n 2, 1) := by decide +kernel
theorem dX10_worthOfShare_23 : decode cX10_worthOfShare 23 = .ok (.invokevirtual 166, 3) := by decide +kernel
theorem dX10_worthOfShare_26 : decode cX10_worthOfShare 26 = .ok (.ireturn, 1) := by decide +kernel
set_option maxRecDepth 20000 in
theorem ggX10_freeCount_X1_countOwned : GoodIn wsX10_freeCount wsX1_countOwned := goodIn_r _ [6, 7, 8, 19, 20, 21, 22, 23, 24] (by decide +kernel) (by decide +kernel)
set_option maxRecDepth 20000 in
theorem gX10_freeCount_X1_countOwned : GoodIn wsX10_freeCount (wsV RX10 170 RX1 yX1_countOwned wsX1_countOwned) := goodIn_app (goodIn_of _ (by decide +kernel)) ggX10_freeCount_X1_countOwned
theorem dX10_freeCount_0 : decode cX10_freeCount 0 = .ok (.aload_n 0, 1) := by decide +kernel
theorem dX10_freeCount_1 : decode cX10_freeCount 1 = .ok (.getfield 22, 3) := by decide +kernel
theorem dX10_freeCount_4 : decode cX10_freeCount 4 = .ok (.iconst (-1), 1) := by decide +kernel
theorem dX10_freeCount_5 : decode cX10_freeCount 5 = .ok (.invokevirtual 170, 3) := by decide +kernel
theorem dX10_freeCount_8 : decode cX10_freeCount 8 = .ok (.ireturn, 1) := by decide +kernel
set_option maxRecDepth 20000 in
theorem ggX10_envies_X10_requireSibling : GoodIn wsX10_envies wsX10_requireSibling := goodIn_ca (goodIn_r _ [6, 7, 8, 9, 10, 11, 12, 13, 14, 15, 29, 30, 31, 32, 33, 34, 35, 36, 37, 38, 39, 40, 41, 42, 43, 44] (by decide +kernel) (by decide +kernel)) (goodIn_sub (fun _ h => List.mem_cons_of_mem _ (List.mem_append_right _ h)) (by decide +kernel))
set_option maxRecDepth 20000 in
theorem gX10_envies_X10_requireSibling : GoodIn wsX10_envies (wsV RX10 120 RX10 yX10_requireSibling wsX10_requireSibling) := goodIn_app (goodIn_of _ (by decide +kernel)) ggX10_envies_X10_requireSibling
set_option maxRecDepth 20000 in
theorem ggX10_envies_X3_hasEnvy : GoodIn wsX10_envies wsX3_hasEnvy := goodIn_r _ [20, 21, 22, 23, 24, 25, 13, 26, 27, 28, 45, 46, 47, 48, 39, 40, 41, 42, 43, 44] (by decide +kernel) (by decide +kernel)
set_option maxRecDepth 20000 in
theorem gX10_envies_X3_hasEnvy : GoodIn wsX10_envies (wsV RX10 185 RX3 yX3_hasEnvy wsX3_hasEnvy) := goodIn_app (goodIn_of _ (by decide +kernel)) ggX10_envies_X3_hasEnvy
theorem dX10_envies_0 : decode cX10_envies 0 = .ok (.aload_n 0, 1) := by decide +kernel
theorem dX10_envies_1 : decode cX10_envies 1 = .ok (.iload_n 1, 1) := by decide +kernel
theorem dX10_envies_2 : decode cX10_envies 2 = .ok (.invokevirtual 120, 3) := by decide +kernel
theorem dX10_envies_5 : decode cX10_envies 5 = .ok (.aload_n 0, 1) := by decide +kernel
theorem dX10_envies_6 : decode cX10_envies 6 = .ok (.iload_n 2, 1) := by decide +kernel
theorem dX10_envies_7 : decode cX10_envies 7 = .ok (.invokevirtual 120, 3) := by decide +kernel
theorem dX10_envies_10 : decode cX10_envies 10 = .ok (.aload_n 0, 1) := by decide +kernel
theorem dX10_envies_11 : decode cX10_envies 11 = .ok (.getfield 43, 3) := by decide +kernel
theorem dX10_envies_14 : decode cX10_envies 14 = .ok (.iload_n 1, 1) := by decide +kernel
theorem dX10_envies_15 : decode cX10_envies 15 = .ok (.iload_n 2, 1) := by decide +kernel
theorem dX10_envies_16 : decode cX10_envies 16 = .ok (.invokevirtual 185, 3) := by decide +kernel
theorem dX10_envies_19 : decode cX10_envies 19 = .ok (.ireturn, 1) := by decide +kernel
set_option maxRecDepth 20000 in
theorem ggX10_isMild_X10_requireSibling : GoodIn wsX10_isMild wsX10_requireSibling := goodIn_ca (goodIn_r _ [8, 9, 10, 11, 12, 13, 14, 15, 16, 17, 54, 55, 56, 57, 58, 59, 60, 61, 62, 63, 64, 65, 66, 67, 68, 69] (by decide +kernel) (by decide +kernel)) (goodIn_sub (fun _ h => List.mem_cons_of_mem _ (List.mem_append_right _ h)) (by decide +kernel))
set_option maxRecDepth 20000 in
theorem gX10_isMild_X10_requireSibling : GoodIn wsX10_isMild (wsV RX10 120 RX10 yX10_requireSibling wsX10_requireSibling) := goodIn_app (goodIn_of _ (by decide +kernel)) ggX10_isMild_X10_requireSibling
set_option maxRecDepth 20000 in
theorem ggX10_isMild_X3_hasEnvy : GoodIn wsX10_isMild wsX3_hasEnvy := goodIn_r _ [22, 23, 24, 25, 26, 27, 15, 28, 29, 30, 70, 71, 72, 73, 64, 65, 66, 67, 68, 69] (by decide +kernel) (by decide +kernel)
set_option maxRecDepth 20000 in
theorem gX10_isMild_X3_hasEnvy : GoodIn wsX10_isMild (wsV RX10 185 RX3 yX3_hasEnvy wsX3_hasEnvy) := goodIn_app (goodIn_of _ (by decide +kernel)) ggX10_isMild_X3_hasEnvy
set_option maxRecDepth 20000 in
theorem ggX10_isMild_X3_hasStrongEnvy : GoodIn wsX10_isMild wsX3_hasStrongEnvy := goodIn_r _ [34, 23, 24, 25, 26, 27, 15, 28, 29, 30, 35, 36, 37, 21, 38, 39, 40, 41, 42, 43, 44, 45, 46, 47, 48, 49, 50, 51, 52, 53, 70, 71, 72, 73, 64, 65, 66, 67, 68, 69] (by decide +kernel) (by decide +kernel)
set_option maxRecDepth 20000 in
theorem gX10_isMild_X3_hasStrongEnvy : GoodIn wsX10_isMild (wsV RX10 191 RX3 yX3_hasStrongEnvy wsX3_hasStrongEnvy) := goodIn_app (goodIn_of _ (by decide +kernel)) ggX10_isMild_X3_hasStrongEnvy
theorem dX10_isMild_0 : decode cX10_isMild 0 = .ok (.aload_n 0, 1) := by decide +kernel
theorem dX10_isMild_1 : decode cX10_isMild 1 = .ok (.iload_n 1, 1) := by decide +kernel
theorem dX10_isMild_2 : decode cX10_isMild 2 = .ok (.invokevirtual 120, 3) := by decide +kernel
theorem dX10_isMild_5 : decode cX10_isMild 5 = .ok (.aload_n 0, 1) := by decide +kernel
theorem dX10_isMild_6 : decode cX10_isMild 6 = .ok (.iload_n 2, 1) := by decide +kernel
theorem dX10_isMild_7 : decode cX10_isMild 7 = .ok (.invokevirtual 120, 3) := by decide +kernel
theorem dX10_isMild_10 : decode cX10_isMild 10 = .ok (.aload_n 0, 1) := by decide +kernel
theorem dX10_isMild_11 : decode cX10_isMild 11 = .ok (.getfield 43, 3) := by decide +kernel
theorem dX10_isMild_14 : decode cX10_isMild 14 = .ok (.iload_n 1, 1) := by decide +kernel
theorem dX10_isMild_15 : decode cX10_isMild 15 = .ok (.iload_n 2, 1) := by decide +kernel
theorem dX10_isMild_16 : decode cX10_isMild 16 = .ok (.invokevirtual 185, 3) := by decide +kernel
theorem dX10_isMild_19 : decode cX10_isMild 19 = .ok (.ifCond .ne 13, 3) := by decide +kernel
theorem dX10_isMild_22 : decode cX10_isMild 22 = .ok (.new 91, 3) := by decide +kernel
theorem dX10_isMild_25 : decode cX10_isMild 25 = .ok (.dup, 1) := by decide +kernel
theorem dX10_isMild_26 : decode cX10_isMild 26 = .ok (.ldc 189, 2) := by decide +kernel
theorem dX10_isMild_28 : decode cX10_isMild 28 = .ok (.invokespecial 95, 3) := by decide +kernel
theorem dX10_isMild_31 : decode cX10_isMild 31 = .ok (.athrow, 1) := by decide +kernel
theorem dX10_isMild_32 : decode cX10_isMild 32 = .ok (.aload_n 0, 1) := by decide +kernel
theorem dX10_isMild_33 : decode cX10_isMild 33 = .ok (.getfield 43, 3) := by decide +kernel
theorem dX10_isMild_36 : decode cX10_isMild 36 = .ok (.iload_n 1, 1) := by decide +kernel
theorem dX10_isMild_37 : decode cX10_isMild 37 = .ok (.iload_n 2, 1) := by decide +kernel
theorem dX10_isMild_38 : decode cX10_isMild 38 = .ok (.invokevirtual 191, 3) := by decide +kernel
theorem dX10_isMild_41 : decode cX10_isMild 41 = .ok (.ifCond .ne 7, 3) := by decide +kernel
theorem dX10_isMild_44 : decode cX10_isMild 44 = .ok (.iconst 1, 1) := by decide +kernel
theorem dX10_isMild_45 : decode cX10_isMild 45 = .ok (.goto 4, 3) := by decide +kernel
theorem dX10_isMild_48 : decode cX10_isMild 48 = .ok (.iconst 0, 1) := by decide +kernel
theorem dX10_isMild_49 : decode cX10_isMild 49 = .ok (.ireturn, 1) := by decide +kernel
set_option maxRecDepth 20000 in
theorem ggX10_strongEnvyCount_X3_countStrongEnvies : GoodIn wsX10_strongEnvyCount wsX3_countStrongEnvies := goodIn_r _ [6, 7, 8, 9, 10, 11, 5, 12, 13, 14, 15, 16, 17, 18, 19, 20, 21, 22, 23, 24, 25, 26, 27, 28, 29, 30, 31, 32, 33, 34, 35, 36, 37, 38, 39, 50, 51, 52, 53, 54, 55, 56, 57, 58, 59] (by decide +kernel) (by decide +kernel)
set_option maxRecDepth 20000 in
theorem gX10_strongEnvyCount_X3_countStrongEnvies : GoodIn wsX10_strongEnvyCount (wsV RX10 198 RX3 yX3_countStrongEnvies wsX3_countStrongEnvies) := goodIn_app (goodIn_of _ (by decide +kernel)) ggX10_strongEnvyCount_X3_countStrongEnvies
theorem dX10_strongEnvyCount_0 : decode cX10_strongEnvyCount 0 = .ok (.aload_n 0, 1) := by decide +kernel
theorem dX10_strongEnvyCount_1 : decode cX10_strongEnvyCount 1 = .ok (.getfield 43, 3) := by decide +kernel
theorem dX10_strongEnvyCount_4 : decode cX10_strongEnvyCount 4 = .ok (.invokevirtual 198, 3) := by decide +kernel
theorem dX10_strongEnvyCount_7 : decode cX10_strongEnvyCount 7 = .ok (.ireturn, 1) := by decide +kernel
set_option maxRecDepth 20000 in
theorem ggX10_isSatisfied_X10_requireSibling : GoodIn wsX10_isSatisfied wsX10_requireSibling := goodIn_ca (goodIn_r _ [6, 7, 8, 9, 10, 11, 12, 13, 14, 15, 42, 43, 44, 45, 46, 47, 48, 49, 50, 51, 52, 53, 54, 55, 56, 57] (by decide +kernel) (by decide +kernel)) (goodIn_sub (fun _ h => List.mem_cons_of_mem _ (List.mem_append_right _ h)) (by decide +kernel))
set_option maxRecDepth 20000 in
theorem gX10_isSatisfied_X10_requireSibling : GoodIn wsX10_isSatisfied (wsV RX10 120 RX10 yX10_requireSibling wsX10_requireSibling) := goodIn_app (goodIn_of _ (by decide +kernel)) ggX10_isSatisfied_X10_requireSibling
set_option maxRecDepth 20000 in
theorem ggX10_isSatisfied_X3_hasFairShare : GoodIn wsX10_isSatisfied wsX3_hasFairShare := goodIn_r _ [20, 21, 22, 23, 24, 25, 13, 26, 27, 28, 29, 30, 31, 32, 33, 34, 35, 36, 37, 38, 39, 40, 41, 58, 59, 60, 61, 52, 53, 54, 55, 56, 57] (by decide +kernel) (by decide +kernel)
set_option maxRecDepth 20000 in
theorem gX10_isSatisfied_X3_hasFairShare : GoodIn wsX10_isSatisfied (wsV RX10 204 RX3 yX3_hasFairShare wsX3_hasFairShare) := goodIn_app (goodIn_of _ (by decide +kernel)) ggX10_isSatisfied_X3_hasFairShare
theorem dX10_isSatisfied_0 : decode cX10_isSatisfied 0 = .ok (.aload_n 0, 1) := by decide +kernel
theorem dX10_isSatisfied_1 : decode cX10_isSatisfied 1 = .ok (.iload_n 1, 1) := by decide +kernel
theorem dX10_isSatisfied_2 : decode cX10_isSatisfied 2 = .ok (.invokevirtual 120, 3) := by decide +kernel
theorem dX10_isSatisfied_5 : decode cX10_isSatisfied 5 = .ok (.aload_n 0, 1) := by decide +kernel
theorem dX10_isSatisfied_6 : decode cX10_isSatisfied 6 = .ok (.getfield 43, 3) := by decide +kernel
theorem dX10_isSatisfied_9 : decode cX10_isSatisfied 9 = .ok (.iload_n 1, 1) := by decide +kernel
theorem dX10_isSatisfied_10 : decode cX10_isSatisfied 10 = .ok (.invokevirtual 204, 3) := by decide +kernel
theorem dX10_isSatisfied_13 : decode cX10_isSatisfied 13 = .ok (.ireturn, 1) := by decide +kernel
set_option maxRecDepth 20000 in
theorem ggX10_envyCycleLength_X10_requireSibling : GoodIn wsX10_envyCycleLength wsX10_requireSibling := goodIn_ca (goodIn_r _ [6, 7, 8, 9, 10, 11, 12, 13, 14, 15, 49, 50, 51, 52, 53, 54, 55, 56, 57, 58, 59, 60, 61, 62, 63, 64] (by decide +kernel) (by decide +kernel)) (goodIn_sub (fun _ h => List.mem_cons_of_mem _ (List.mem_append_right _ h)) (by decide +kernel))
set_option maxRecDepth 20000 in
theorem gX10_envyCycleLength_X10_requireSibling : GoodIn wsX10_envyCycleLength (wsV RX10 120 RX10 yX10_requireSibling wsX10_requireSibling) := goodIn_app (goodIn_of _ (by decide +kernel)) ggX10_envyCycleLength_X10_requireSibling
set_option maxRecDepth 20000 in
theorem ggX10_envyCycleLength_X3_findCycle : GoodIn wsX10_envyCycleLength wsX3_findCycle := goodIn_r _ [20, 21, 22, 23, 24, 19, 25, 26, 27, 28, 29, 30, 31, 32, 13, 33, 34, 35, 36, 37, 38, 39, 40, 41, 42, 43, 44, 45, 46, 47, 48, 65, 66, 67, 68, 59, 60, 61, 62, 63, 64] (by decide +kernel) (by decide +kernel)
set_option maxRecDepth 20000 in
theorem gX10_envyCycleLength_X3_findCycle : GoodIn wsX10_envyCycleLength (wsV RX10 211 RX3 yX3_findCycle wsX3_findCycle) := goodIn_app (goodIn_of _ (by decide +kernel)) ggX10_envyCycleLength_X3_findCycle
theorem dX10_envyCycleLength_0 : decode cX10_envyCycleLength 0 = .ok (.aload_n 0, 1) := by decide +kernel
theorem dX10_envyCycleLength_1 : decode cX10_envyCycleLength 1 = .ok (.iload_n 1, 1) := by decide +kernel
theorem dX10_envyCycleLength_2 : decode cX10_envyCycleLength 2 = .ok (.invokevirtual 120, 3) := by decide +kernel
theorem dX10_envyCycleLength_5 : decode cX10_envyCycleLength 5 = .ok (.aload_n 0, 1) := by decide +kernel
theorem dX10_envyCycleLength_6 : decode cX10_envyCycleLength 6 = .ok (.getfield 43, 3) := by decide +kernel
theorem dX10_envyCycleLength_9 : decode cX10_envyCycleLength 9 = .ok (.iload_n 1, 1) := by decide +kernel
theorem dX10_envyCycleLength_10 : decode cX10_envyCycleLength 10 = .ok (.invokevirtual 211, 3) := by decide +kernel
theorem dX10_envyCycleLength_13 : decode cX10_envyCycleLength 13 = .ok (.ireturn, 1) := by decide +kernel
set_option maxRecDepth 20000 in
theorem ggX10_envyCycleMember_X10_requireSibling : GoodIn wsX10_envyCycleMember wsX10_requireSibling := goodIn_ca (goodIn_r _ [9, 10, 11, 12, 13, 14, 15, 16, 17, 18, 52, 53, 54, 55, 56, 57, 58, 59, 60, 61, 66, 67, 68, 69, 70, 71] (by decide +kernel) (by decide +kernel)) (goodIn_sub (fun _ h => List.mem_cons_of_mem _ (List.mem_append_right _ h)) (by decide +kernel))
set_option maxRecDepth 20000 in
theorem gX10_envyCycleMember_X10_requireSibling : GoodIn wsX10_envyCycleMember (wsV RX10 120 RX10 yX10_requireSibling wsX10_requireSibling) := goodIn_app (goodIn_of _ (by decide +kernel)) ggX10_envyCycleMember_X10_requireSibling
set_option maxRecDepth 20000 in
theorem ggX10_envyCycleMember_X3_findCycle : GoodIn wsX10_envyCycleMember wsX3_findCycle := goodIn_r _ [23, 24, 25, 26, 27, 22, 28, 29, 30, 31, 32, 33, 34, 35, 16, 36, 37, 38, 39, 40, 41, 42, 43, 44, 45, 46, 47, 48, 49, 50, 51, 62, 63, 64, 65, 66, 67, 68, 69, 70, 71] (by decide +kernel) (by decide +kernel)
set_option maxRecDepth 20000 in
theorem gX10_envyCycleMember_X3_findCycle : GoodIn wsX10_envyCycleMember (wsV RX10 211 RX3 yX3_findCycle wsX3_findCycle) := goodIn_app (goodIn_of _ (by decide +kernel)) ggX10_envyCycleMember_X3_findCycle
theorem dX10_envyCycleMember_0 : decode cX10_envyCycleMember 0 = .ok (.aload_n 0, 1) := by decide +kernel
theorem dX10_envyCycleMember_1 : decode cX10_envyCycleMember 1 = .ok (.iload_n 1, 1) := by decide +kernel
theorem dX10_envyCycleMember_2 : decode cX10_envyCycleMember 2 = .ok (.invokevirtual 120, 3) := by decide +kernel
theorem dX10_envyCycleMember_5 : decode cX10_envyCycleMember 5 = .ok (.iload_n 2, 1) := by decide +kernel
theorem dX10_envyCycleMember_6 : decode cX10_envyCycleMember 6 = .ok (.ifCond .lt 15, 3) := by decide +kernel
theorem dX10_envyCycleMember_9 : decode cX10_envyCycleMember 9 = .ok (.iload_n 2, 1) := by decide +kernel
theorem dX10_envyCycleMember_10 : decode cX10_envyCycleMember 10 = .ok (.aload_n 0, 1) := by decide +kernel
theorem dX10_envyCycleMember_11 : decode cX10_envyCycleMember 11 = .ok (.getfield 43, 3) := by decide +kernel
theorem dX10_envyCycleMember_14 : decode cX10_envyCycleMember 14 = .ok (.iload_n 1, 1) := by decide +kernel
theorem dX10_envyCycleMember_15 : decode cX10_envyCycleMember 15 = .ok (.invokevirtual 211, 3) := by decide +kernel
theorem dX10_envyCycleMember_18 : decode cX10_envyCycleMember 18 = .ok (.if_icmp .lt 13, 3) := by decide +kernel
theorem dX10_envyCycleMember_21 : decode cX10_envyCycleMember 21 = .ok (.new 139, 3) := by decide +kernel
theorem dX10_envyCycleMember_24 : decode cX10_envyCycleMember 24 = .ok (.dup, 1) := by decide +kernel
theorem dX10_envyCycleMember_25 : decode cX10_envyCycleMember 25 = .ok (.ldc 214, 2) := by decide +kernel
theorem dX10_envyCycleMember_27 : decode cX10_envyCycleMember 27 = .ok (.invokespecial 143, 3) := by decide +kernel
theorem dX10_envyCycleMember_30 : decode cX10_envyCycleMember 30 = .ok (.athrow, 1) := by decide +kernel
theorem dX10_envyCycleMember_31 : decode cX10_envyCycleMember 31 = .ok (.aload_n 0, 1) := by decide +kernel
theorem dX10_envyCycleMember_32 : decode cX10_envyCycleMember 32 = .ok (.getfield 43, 3) := by decide +kernel
theorem dX10_envyCycleMember_35 : decode cX10_envyCycleMember 35 = .ok (.getfield 216, 3) := by decide +kernel
theorem dX10_envyCycleMember_38 : decode cX10_envyCycleMember 38 = .ok (.iload_n 2, 1) := by decide +kernel
theorem dX10_envyCycleMember_39 : decode cX10_envyCycleMember 39 = .ok (.iaload, 1) := by decide +kernel
theorem dX10_envyCycleMember_40 : decode cX10_envyCycleMember 40 = .ok (.ireturn, 1) := by decide +kernel
set_option maxRecDepth 20000 in
theorem ggX10_totalWelfare_X1_welfareOf : GoodIn wsX10_totalWelfare wsX1_welfareOf := goodIn_r _ [7, 8, 9, 10, 11, 6, 12, 13, 14, 25, 26, 27, 28, 29, 30] (by decide +kernel) (by decide +kernel)
set_option maxRecDepth 20000 in
theorem gX10_totalWelfare_X1_welfareOf : GoodIn wsX10_totalWelfare (wsV RX10 219 RX1 yX1_welfareOf wsX1_welfareOf) := goodIn_app (goodIn_of _ (by decide +kernel)) ggX10_totalWelfare_X1_welfareOf
theorem dX10_totalWelfare_0 : decode cX10_totalWelfare 0 = .ok (.iconst 0, 1) := by decide +kernel
theorem dX10_totalWelfare_1 : decode cX10_totalWelfare 1 = .ok (.istore_n 1, 1) := by decide +kernel
theorem dX10_totalWelfare_2 : decode cX10_totalWelfare 2 = .ok (.iconst 0, 1) := by decide +kernel
theorem dX10_totalWelfare_3 : decode cX10_totalWelfare 3 = .ok (.istore_n 2, 1) := by decide +kernel
theorem dX10_totalWelfare_4 : decode cX10_totalWelfare 4 = .ok (.iload_n 2, 1) := by decide +kernel
theorem dX10_totalWelfare_5 : decode cX10_totalWelfare 5 = .ok (.aload_n 0, 1) := by decide +kernel
theorem dX10_totalWelfare_6 : decode cX10_totalWelfare 6 = .ok (.getfield 22, 3) := by decide +kernel
theorem dX10_totalWelfare_9 : decode cX10_totalWelfare 9 = .ok (.getfield 108, 3) := by decide +kernel
theorem dX10_totalWelfare_12 : decode cX10_totalWelfare 12 = .ok (.if_icmp .ge 20, 3) := by decide +kernel
theorem dX10_totalWelfare_15 : decode cX10_totalWelfare 15 = .ok (.iload_n 1, 1) := by decide +kernel
theorem dX10_totalWelfare_16 : decode cX10_totalWelfare 16 = .ok (.aload_n 0, 1) := by decide +kernel
theorem dX10_totalWelfare_17 : decode cX10_totalWelfare 17 = .ok (.getfield 22, 3) := by decide +kernel
theorem dX10_totalWelfare_20 : decode cX10_totalWelfare 20 = .ok (.iload_n 2, 1) := by decide +kernel
theorem dX10_totalWelfare_21 : decode cX10_totalWelfare 21 = .ok (.invokevirtual 219, 3) := by decide +kernel
theorem dX10_totalWelfare_24 : decode cX10_totalWelfare 24 = .ok (.iadd, 1) := by decide +kernel
theorem dX10_totalWelfare_25 : decode cX10_totalWelfare 25 = .ok (.istore_n 1, 1) := by decide +kernel
theorem dX10_totalWelfare_26 : decode cX10_totalWelfare 26 = .ok (.iinc 2 1, 3) := by decide +kernel
theorem dX10_totalWelfare_29 : decode cX10_totalWelfare 29 = .ok (.goto (-25), 3) := by decide +kernel
theorem dX10_totalWelfare_32 : decode cX10_totalWelfare 32 = .ok (.iload_n 1, 1) := by decide +kernel
theorem dX10_totalWelfare_33 : decode cX10_totalWelfare 33 = .ok (.ireturn, 1) := by decide +kernel
set_option maxRecDepth 20000 in
theorem ggX10_leastWelfare_X1_leastWelfareAmong : GoodIn wsX10_leastWelfare wsX1_leastWelfareAmong := goodIn_r _ [7, 8, 9, 10, 11, 12, 13, 14, 15, 6, 16, 17, 18, 29, 30, 31, 32, 33, 34] (by decide +kernel) (by decide +kernel)
set_option maxRecDepth 20000 in
theorem gX10_leastWelfare_X1_leastWelfareAmong : GoodIn wsX10_leastWelfare (wsV RX10 222 RX1 yX1_leastWelfareAmong wsX1_leastWelfareAmong) := goodIn_app (goodIn_of _ (by decide +kernel)) ggX10_leastWelfare_X1_leastWelfareAmong
theorem dX10_leastWelfare_0 : decode cX10_leastWelfare 0 = .ok (.aload_n 0, 1) := by decide +kernel
theorem dX10_leastWelfare_1 : decode cX10_leastWelfare 1 = .ok (.getfield 22, 3) := by decide +kernel
theorem dX10_leastWelfare_4 : decode cX10_leastWelfare 4 = .ok (.aload_n 0, 1) := by decide +kernel
theorem dX10_leastWelfare_5 : decode cX10_leastWelfare 5 = .ok (.getfield 22, 3) := by decide +kernel
theorem dX10_leastWelfare_8 : decode cX10_leastWelfare 8 = .ok (.getfield 151, 3) := by decide +kernel
theorem dX10_leastWelfare_11 : decode cX10_leastWelfare 11 = .ok (.invokevirtual 222, 3) := by decide +kernel
theorem dX10_leastWelfare_14 : decode cX10_leastWelfare 14 = .ok (.ireturn, 1) := by decide +kernel
set_option maxRecDepth 20000 in
theorem ggX10_inconsistencies_X1_countOwned : GoodIn wsX10_inconsistencies wsX1_countOwned := goodIn_r _ [9, 10, 11, 34, 35, 36, 37, 38, 39] (by decide +kernel) (by decide +kernel)
set_option maxRecDepth 20000 in
theorem gX10_inconsistencies_X1_countOwned : GoodIn wsX10_inconsistencies (wsV RX10 170 RX1 yX1_countOwned wsX1_countOwned) := goodIn_app (goodIn_of _ (by decide +kernel)) ggX10_inconsistencies_X1_countOwned
set_option maxRecDepth 20000 in
theorem ggX10_inconsistencies_X3_hasEnvy : GoodIn wsX10_inconsistencies wsX3_hasEnvy := goodIn_r _ [16, 17, 18, 19, 20, 21, 8, 22, 10, 23, 40, 41, 42, 43, 34, 35, 36, 37, 38, 39] (by decide +kernel) (by decide +kernel)
set_option maxRecDepth 20000 in
theorem gX10_inconsistencies_X3_hasEnvy : GoodIn wsX10_inconsistencies (wsV RX10 185 RX3 yX3_hasEnvy wsX3_hasEnvy) := goodIn_app (goodIn_of _ (by decide +kernel)) ggX10_inconsistencies_X3_hasEnvy
theorem dX10_inconsistencies_0 : decode cX10_inconsistencies 0 = .ok (.aload_n 0, 1) := by decide +kernel
theorem dX10_inconsistencies_1 : decode cX10_inconsistencies 1 = .ok (.getfield 22, 3) := by decide +kernel
theorem dX10_inconsistencies_4 : decode cX10_inconsistencies 4 = .ok (.getfield 117, 3) := by decide +kernel
theorem dX10_inconsistencies_7 : decode cX10_inconsistencies 7 = .ok (.aload_n 0, 1) := by decide +kernel
theorem dX10_inconsistencies_8 : decode cX10_inconsistencies 8 = .ok (.getfield 22, 3) := by decide +kernel
theorem dX10_inconsistencies_11 : decode cX10_inconsistencies 11 = .ok (.iconst (-1), 1) := by decide +kernel
theorem dX10_inconsistencies_12 : decode cX10_inconsistencies 12 = .ok (.invokevirtual 170, 3) := by decide +kernel
theorem dX10_inconsistencies_15 : decode cX10_inconsistencies 15 = .ok (.isub, 1) := by decide +kernel
theorem dX10_inconsistencies_16 : decode cX10_inconsistencies 16 = .ok (.istore_n 1, 1) := by decide +kernel
theorem dX10_inconsistencies_17 : decode cX10_inconsistencies 17 = .ok (.iconst 0, 1) := by decide +kernel
theorem dX10_inconsistencies_18 : decode cX10_inconsistencies 18 = .ok (.istore_n 2, 1) := by decide +kernel
theorem dX10_inconsistencies_19 : decode cX10_inconsistencies 19 = .ok (.iload_n 2, 1) := by decide +kernel
theorem dX10_inconsistencies_20 : decode cX10_inconsistencies 20 = .ok (.aload_n 0, 1) := by decide +kernel
theorem dX10_inconsistencies_21 : decode cX10_inconsistencies 21 = .ok (.getfield 22, 3) := by decide +kernel
theorem dX10_inconsistencies_24 : decode cX10_inconsistencies 24 = .ok (.getfield 108, 3) := by decide +kernel
theorem dX10_inconsistencies_27 : decode cX10_inconsistencies 27 = .ok (.if_icmp .ge 35, 3) := by decide +kernel
theorem dX10_inconsistencies_30 : decode cX10_inconsistencies 30 = .ok (.iload_n 1, 1) := by decide +kernel
theorem dX10_inconsistencies_31 : decode cX10_inconsistencies 31 = .ok (.aload_n 0, 1) := by decide +kernel
theorem dX10_inconsistencies_32 : decode cX10_inconsistencies 32 = .ok (.getfield 22, 3) := by decide +kernel
theorem dX10_inconsistencies_35 : decode cX10_inconsistencies 35 = .ok (.iload_n 2, 1) := by decide +kernel
theorem dX10_inconsistencies_36 : decode cX10_inconsistencies 36 = .ok (.invokevirtual 170, 3) := by decide +kernel
theorem dX10_inconsistencies_39 : decode cX10_inconsistencies 39 = .ok (.isub, 1) := by decide +kernel
theorem dX10_inconsistencies_40 : decode cX10_inconsistencies 40 = .ok (.istore_n 1, 1) := by decide +kernel
theorem dX10_inconsistencies_41 : decode cX10_inconsistencies 41 = .ok (.aload_n 0, 1) := by decide +kernel
theorem dX10_inconsistencies_42 : decode cX10_inconsistencies 42 = .ok (.getfield 43, 3) := by decide +kernel
theorem dX10_inconsistencies_45 : decode cX10_inconsistencies 45 = .ok (.iload_n 2, 1) := by decide +kernel
theorem dX10_inconsistencies_46 : decode cX10_inconsistencies 46 = .ok (.iload_n 2, 1) := by decide +kernel
theorem dX10_inconsistencies_47 : decode cX10_inconsistencies 47 = .ok (.invokevirtual 185, 3) := by decide +kernel
theorem dX10_inconsistencies_50 : decode cX10_inconsistencies 50 = .ok (.ifCond .eq 6, 3) := by decide +kernel
theorem dX10_inconsistencies_53 : decode cX10_inconsistencies 53 = .ok (.iinc 1 1, 3) := by decide +kernel
theorem dX10_inconsistencies_56 : decode cX10_inconsistencies 56 = .ok (.iinc 2 1, 3) := by decide +kernel
theorem dX10_inconsistencies_59 : decode cX10_inconsistencies 59 = .ok (.goto (-40), 3) := by decide +kernel
theorem dX10_inconsistencies_62 : decode cX10_inconsistencies 62 = .ok (.iload_n 1, 1) := by decide +kernel
theorem dX10_inconsistencies_63 : decode cX10_inconsistencies 63 = .ok (.ireturn, 1) := by decide +kernel
set_option maxRecDepth 20000 in
theorem ggX10_give_X10_requireSibling : GoodIn wsX10_give wsX10_requireSibling := goodIn_ca (goodIn_r _ [8, 9, 10, 2, 11, 12, 13, 14, 15, 16, 69, 70, 71, 72, 73, 74, 75, 76, 77, 78, 79, 80, 81, 82, 83, 84] (by decide +kernel) (by decide +kernel)) (goodIn_sub (fun _ h => List.mem_cons_of_mem _ (List.mem_append_left _ (List.mem_append_right _ h))) (by decide +kernel))
set_option maxRecDepth 20000 in
theorem gX10_give_X10_requireSibling : GoodIn wsX10_give (wsV RX10 120 RX10 yX10_requireSibling wsX10_requireSibling) := goodIn_app (goodIn_of _ (by decide +kernel)) ggX10_give_X10_requireSibling
set_option maxRecDepth 20000 in
theorem ggX10_give_X10_requireRun : GoodIn wsX10_give wsX10_requireRun := goodIn_ca (goodIn_r _ [20, 21, 22, 2, 23, 24, 25, 14, 26, 27, 28, 29, 30, 31, 69, 70, 71, 72, 73, 74, 75, 76, 77, 78, 79, 80, 81, 82, 83, 84] (by decide +kernel) (by decide +kernel)) (goodIn_sub (fun _ h => List.mem_cons_of_mem _ (List.mem_append_right _ h)) (by decide +kernel))
set_option maxRecDepth 20000 in
theorem gX10_give_X10_requireRun : GoodIn wsX10_give (wsV RX10 154 RX10 yX10_requireRun wsX10_requireRun) := goodIn_app (goodIn_of _ (by decide +kernel)) ggX10_give_X10_requireRun
set_option maxRecDepth 20000 in
theorem ggX10_give_X4_rememberForUndo : GoodIn wsX10_give wsX4_rememberForUndo := goodIn_r _ [36, 37, 38, 39, 40, 41, 42, 43, 44, 45, 35, 46, 47, 48, 49, 50, 51, 52, 53, 54, 85, 86, 87, 88, 89, 79, 80, 81, 82, 83, 84] (by decide +kernel) (by decide +kernel)
set_option maxRecDepth 20000 in
theorem gX10_give_X4_rememberForUndo : GoodIn wsX10_give (wsV RX10 250 RX4 yX4_rememberForUndo wsX4_rememberForUndo) := goodIn_app (goodIn_of _ (by decide +kernel)) ggX10_give_X4_rememberForUndo
set_option maxRecDepth 20000 in
theorem ggX10_give_X1_assign : GoodIn wsX10_give wsX1_assign := goodIn_r _ [58] (by decide +kernel) (by decide +kernel)
set_option maxRecDepth 20000 in
theorem gX10_give_X1_assign : GoodIn wsX10_give (wsV RX10 253 RX1 yX1_assign wsX1_assign) := goodIn_app (goodIn_of _ (by decide +kernel)) ggX10_give_X1_assign
set_option maxRecDepth 20000 in
theorem ggX10_give_X1_welfareOf : GoodIn wsX10_give wsX1_welfareOf := goodIn_r _ [62, 63, 64, 65, 66, 14, 67, 31, 68, 79, 80, 81, 82, 83, 84] (by decide +kernel) (by decide +kernel)
set_option maxRecDepth 20000 in
theorem gX10_give_X1_welfareOf : GoodIn wsX10_give (wsV RX10 219 RX1 yX1_welfareOf wsX1_welfareOf) := goodIn_app (goodIn_of _ (by decide +kernel)) ggX10_give_X1_welfareOf
theorem dX10_give_0 : decode cX10_give 0 = .ok (.aload_n 0, 1) := by decide +kernel
theorem dX10_give_1 : decode cX10_give 1 = .ok (.iload_n 1, 1) := by decide +kernel
theorem dX10_give_2 : decode cX10_give 2 = .ok (.invokevirtual 120, 3) := by decide +kernel
theorem dX10_give_5 : decode cX10_give 5 = .ok (.aload_n 0, 1) := by decide +kernel
theorem dX10_give_6 : decode cX10_give 6 = .ok (.iload_n 2, 1) := by decide +kernel
theorem dX10_give_7 : decode cX10_give 7 = .ok (.iload_n 3, 1) := by decide +kernel
theorem dX10_give_8 : decode cX10_give 8 = .ok (.invokevirtual 154, 3) := by decide +kernel
theorem dX10_give_11 : decode cX10_give 11 = .ok (.aload_n 0, 1) := by decide +kernel
theorem dX10_give_12 : decode cX10_give 12 = .ok (.getfield 73, 3) := by decide +kernel
theorem dX10_give_15 : decode cX10_give 15 = .ok (.aload_n 0, 1) := by decide +kernel
theorem dX10_give_16 : decode cX10_give 16 = .ok (.getfield 22, 3) := by decide +kernel
theorem dX10_give_19 : decode cX10_give 19 = .ok (.invokevirtual 250, 3) := by decide +kernel
theorem dX10_give_22 : decode cX10_give 22 = .ok (.aload_n 0, 1) := by decide +kernel
theorem dX10_give_23 : decode cX10_give 23 = .ok (.getfield 22, 3) := by decide +kernel
theorem dX10_give_26 : decode cX10_give 26 = .ok (.aload_n 0, 1) := by decide +kernel
theorem dX10_give_27 : decode cX10_give 27 = .ok (.getfield 22, 3) := by decide +kernel
theorem dX10_give_30 : decode cX10_give 30 = .ok (.getfield 151, 3) := by decide +kernel
theorem dX10_give_33 : decode cX10_give 33 = .ok (.iload_n 1, 1) := by decide +kernel
theorem dX10_give_34 : decode cX10_give 34 = .ok (.iload_n 2, 1) := by decide +kernel
theorem dX10_give_35 : decode cX10_give 35 = .ok (.iload_n 3, 1) := by decide +kernel
theorem dX10_give_36 : decode cX10_give 36 = .ok (.iconst 1, 1) := by decide +kernel
theorem dX10_give_37 : decode cX10_give 37 = .ok (.iadd, 1) := by decide +kernel
theorem dX10_give_38 : decode cX10_give 38 = .ok (.invokevirtual 253, 3) := by decide +kernel
theorem dX10_give_41 : decode cX10_give 41 = .ok (.aload_n 0, 1) := by decide +kernel
theorem dX10_give_42 : decode cX10_give 42 = .ok (.getfield 22, 3) := by decide +kernel
theorem dX10_give_45 : decode cX10_give 45 = .ok (.iload_n 1, 1) := by decide +kernel
theorem dX10_give_46 : decode cX10_give 46 = .ok (.invokevirtual 219, 3) := by decide +kernel
theorem dX10_give_49 : decode cX10_give 49 = .ok (.ireturn, 1) := by decide +kernel
set_option maxRecDepth 20000 in
theorem ggX10_release_X10_requireRun : GoodIn wsX10_release wsX10_requireRun := goodIn_ca (goodIn_r _ [8, 9, 10, 2, 11, 12, 13, 14, 15, 16, 17, 18, 19, 20, 53, 54, 55, 56, 57, 58, 59, 60, 61, 62, 63, 64, 65, 66, 67, 68] (by decide +kernel) (by decide +kernel)) (goodIn_sub (fun _ h => List.mem_cons_of_mem _ (List.mem_append_right _ h)) (by decide +kernel))
set_option maxRecDepth 20000 in
theorem gX10_release_X10_requireRun : GoodIn wsX10_release (wsV RX10 154 RX10 yX10_requireRun wsX10_requireRun) := goodIn_app (goodIn_of _ (by decide +kernel)) ggX10_release_X10_requireRun
set_option maxRecDepth 20000 in
theorem ggX10_release_X4_rememberForUndo : GoodIn wsX10_release wsX4_rememberForUndo := goodIn_r _ [25, 26, 27, 28, 29, 30, 31, 32, 33, 34, 24, 35, 36, 37, 38, 39, 40, 41, 42, 43, 69, 70, 71, 72, 73, 63, 64, 65, 66, 67, 68] (by decide +kernel) (by decide +kernel)
set_option maxRecDepth 20000 in
theorem gX10_release_X4_rememberForUndo : GoodIn wsX10_release (wsV RX10 250 RX4 yX4_rememberForUndo wsX4_rememberForUndo) := goodIn_app (goodIn_of _ (by decide +kernel)) ggX10_release_X4_rememberForUndo
set_option maxRecDepth 20000 in
theorem ggX10_release_X1_assign : GoodIn wsX10_release wsX1_assign := goodIn_r _ [47] (by decide +kernel) (by decide +kernel)
set_option maxRecDepth 20000 in
theorem gX10_release_X1_assign : GoodIn wsX10_release (wsV RX10 253 RX1 yX1_assign wsX1_assign) := goodIn_app (goodIn_of _ (by decide +kernel)) ggX10_release_X1_assign
set_option maxRecDepth 20000 in
theorem ggX10_release_X1_countOwned : GoodIn wsX10_release wsX1_countOwned := goodIn_r _ [51, 20, 52, 63, 64, 65, 66, 67, 68] (by decide +kernel) (by decide +kernel)
set_option maxRecDepth 20000 in
theorem gX10_release_X1_countOwned : GoodIn wsX10_release (wsV RX10 170 RX1 yX1_countOwned wsX1_countOwned) := goodIn_app (goodIn_of _ (by decide +kernel)) ggX10_release_X1_countOwned
theorem dX10_release_0 : decode cX10_release 0 = .ok (.aload_n 0, 1) := by decide +kernel
theorem dX10_release_1 : decode cX10_release 1 = .ok (.iload_n 1, 1) := by decide +kernel
theorem dX10_release_2 : decode cX10_release 2 = .ok (.iload_n 2, 1) := by decide +kernel
theorem dX10_release_3 : decode cX10_release 3 = .ok (.invokevirtual 154, 3) := by decide +kernel
theorem dX10_release_6 : decode cX10_release 6 = .ok (.aload_n 0, 1) := by decide +kernel
theorem dX10_release_7 : decode cX10_release 7 = .ok (.getfield 73, 3) := by decide +kernel
theorem dX10_release_10 : decode cX10_release 10 = .ok (.aload_n 0, 1) := by decide +kernel
theorem dX10_release_11 : decode cX10_release 11 = .ok (.getfield 22, 3) := by decide +kernel
theorem dX10_release_14 : decode cX10_release 14 = .ok (.invokevirtual 250, 3) := by decide +kernel
theorem dX10_release_17 : decode cX10_release 17 = .ok (.aload_n 0, 1) := by decide +kernel
theorem dX10_release_18 : decode cX10_release 18 = .ok (.getfield 22, 3) := by decide +kernel
theorem dX10_release_21 : decode cX10_release 21 = .ok (.aload_n 0, 1) := by decide +kernel
theorem dX10_release_22 : decode cX10_release 22 = .ok (.getfield 22, 3) := by decide +kernel
theorem dX10_release_25 : decode cX10_release 25 = .ok (.getfield 151, 3) := by decide +kernel
theorem dX10_release_28 : decode cX10_release 28 = .ok (.iconst (-1), 1) := by decide +kernel
theorem dX10_release_29 : decode cX10_release 29 = .ok (.iload_n 1, 1) := by decide +kernel
theorem dX10_release_30 : decode cX10_release 30 = .ok (.iload_n 2, 1) := by decide +kernel
theorem dX10_release_31 : decode cX10_release 31 = .ok (.iconst 1, 1) := by decide +kernel
theorem dX10_release_32 : decode cX10_release 32 = .ok (.iadd, 1) := by decide +kernel
theorem dX10_release_33 : decode cX10_release 33 = .ok (.invokevirtual 253, 3) := by decide +kernel
theorem dX10_release_36 : decode cX10_release 36 = .ok (.aload_n 0, 1) := by decide +kernel
theorem dX10_release_37 : decode cX10_release 37 = .ok (.getfield 22, 3) := by decide +kernel
theorem dX10_release_40 : decode cX10_release 40 = .ok (.iconst (-1), 1) := by decide +kernel
theorem dX10_release_41 : decode cX10_release 41 = .ok (.invokevirtual 170, 3) := by decide +kernel
theorem dX10_release_44 : decode cX10_release 44 = .ok (.ireturn, 1) := by decide +kernel
set_option maxRecDepth 20000 in
theorem ggX10_swapShares_X10_requireSibling : GoodIn wsX10_swapShares wsX10_requireSibling := goodIn_ca (goodIn_r _ [8, 9, 10, 2, 11, 12, 13, 14, 15, 16, 73, 74, 75, 76, 77, 78, 79, 80, 81, 82, 83, 84, 85, 86, 87, 88] (by decide +kernel) (by decide +kernel)) (goodIn_sub (fun _ h => List.mem_cons_of_mem _ (List.mem_append_left _ (List.mem_append_right _ h))) (by decide +kernel))
set_option maxRecDepth 20000 in
theorem gX10_swapShares_X10_requireSibling : GoodIn wsX10_swapShares (wsV RX10 120 RX10 yX10_requireSibling wsX10_requireSibling) := goodIn_app (goodIn_of _ (by decide +kernel)) ggX10_swapShares_X10_requireSibling
set_option maxRecDepth 20000 in
theorem ggX10_swapShares_X10_requireDifferent : GoodIn wsX10_swapShares wsX10_requireDifferent := goodIn_ca (goodIn_r _ [20, 21, 22] (by decide +kernel) (by decide +kernel)) (goodIn_sub (fun _ h => List.mem_cons_of_mem _ (List.mem_append_right _ h)) (by decide +kernel))
set_option maxRecDepth 20000 in
theorem gX10_swapShares_X10_requireDifferent : GoodIn wsX10_swapShares (wsV RX10 257 RX10 yX10_requireDifferent wsX10_requireDifferent) := goodIn_app (goodIn_of _ (by decide +kernel)) ggX10_swapShares_X10_requireDifferent
set_option maxRecDepth 20000 in
theorem ggX10_swapShares_X4_rememberForUndo : GoodIn wsX10_swapShares wsX4_rememberForUndo := goodIn_r _ [27, 28, 29, 30, 31, 32, 33, 34, 35, 36, 26, 37, 38, 39, 40, 41, 42, 43, 44, 45, 89, 90, 91, 92, 93, 83, 84, 85, 86, 87, 88] (by decide +kernel) (by decide +kernel)
set_option maxRecDepth 20000 in
theorem gX10_swapShares_X4_rememberForUndo : GoodIn wsX10_swapShares (wsV RX10 250 RX4 yX4_rememberForUndo wsX4_rememberForUndo) := goodIn_app (goodIn_of _ (by decide +kernel)) ggX10_swapShares_X4_rememberForUndo
set_option maxRecDepth 20000 in
theorem ggX10_swapShares_X1_exchangeShares : GoodIn wsX10_swapShares wsX1_exchangeShares := goodIn_r _ [49, 50, 51, 83, 84, 85, 86, 87, 88] (by decide +kernel) (by decide +kernel)
set_option maxRecDepth 20000 in
theorem gX10_swapShares_X1_exchangeShares : GoodIn wsX10_swapShares (wsV RX10 260 RX1 yX1_exchangeShares wsX1_exchangeShares) := goodIn_app (goodIn_of _ (by decide +kernel)) ggX10_swapShares_X1_exchangeShares
set_option maxRecDepth 20000 in
theorem ggX10_swapShares_X3_countEnvies : GoodIn wsX10_swapShares wsX3_countEnvies := goodIn_r _ [56, 57, 58, 59, 60, 61, 55, 62, 63, 64, 65, 66, 67, 68, 69, 70, 14, 71, 50, 72, 94, 95, 96, 97, 83, 84, 85, 86, 87, 88] (by decide +kernel) (by decide +kernel)
set_option maxRecDepth 20000 in
theorem gX10_swapShares_X3_countEnvies : GoodIn wsX10_swapShares (wsV RX10 194 RX3 yX3_countEnvies wsX3_countEnvies) := goodIn_app (goodIn_of _ (by decide +kernel)) ggX10_swapShares_X3_countEnvies
theorem dX10_swapShares_0 : decode cX10_swapShares 0 = .ok (.aload_n 0, 1) := by decide +kernel
theorem dX10_swapShares_1 : decode cX10_swapShares 1 = .ok (.iload_n 1, 1) := by decide +kernel
theorem dX10_swapShares_2 : decode cX10_swapShares 2 = .ok (.invokevirtual 120, 3) := by decide +kernel
theorem dX10_swapShares_5 : decode cX10_swapShares 5 = .ok (.aload_n 0, 1) := by decide +kernel
theorem dX10_swapShares_6 : decode cX10_swapShares 6 = .ok (.iload_n 2, 1) := by decide +kernel
theorem dX10_swapShares_7 : decode cX10_swapShares 7 = .ok (.invokevirtual 120, 3) := by decide +kernel
theorem dX10_swapShares_10 : decode cX10_swapShares 10 = .ok (.aload_n 0, 1) := by decide +kernel
theorem dX10_swapShares_11 : decode cX10_swapShares 11 = .ok (.iload_n 1, 1) := by decide +kernel
theorem dX10_swapShares_12 : decode cX10_swapShares 12 = .ok (.iload_n 2, 1) := by decide +kernel
theorem dX10_swapShares_13 : decode cX10_swapShares 13 = .ok (.invokevirtual 257, 3) := by decide +kernel
theorem dX10_swapShares_16 : decode cX10_swapShares 16 = .ok (.aload_n 0, 1) := by decide +kernel
theorem dX10_swapShares_17 : decode cX10_swapShares 17 = .ok (.getfield 73, 3) := by decide +kernel
theorem dX10_swapShares_20 : decode cX10_swapShares 20 = .ok (.aload_n 0, 1) := by decide +kernel
theorem dX10_swapShares_21 : decode cX10_swapShares 21 = .ok (.getfield 22, 3) := by decide +kernel
theorem dX10_swapShares_24 : decode cX10_swapShares 24 = .ok (.invokevirtual 250, 3) := by decide +kernel
theorem dX10_swapShares_27 : decode cX10_swapShares 27 = .ok (.aload_n 0, 1) := by decide +kernel
theorem dX10_swapShares_28 : decode cX10_swapShares 28 = .ok (.getfield 22, 3) := by decide +kernel
theorem dX10_swapShares_31 : decode cX10_swapShares 31 = .ok (.iload_n 1, 1) := by decide +kernel
theorem dX10_swapShares_32 : decode cX10_swapShares 32 = .ok (.iload_n 2, 1) := by decide +kernel
theorem dX10_swapShares_33 : decode cX10_swapShares 33 = .ok (.invokevirtual 260, 3) := by decide +kernel
theorem dX10_swapShares_36 : decode cX10_swapShares 36 = .ok (.aload_n 0, 1) := by decide +kernel
theorem dX10_swapShares_37 : decode cX10_swapShares 37 = .ok (.getfield 43, 3) := by decide +kernel
theorem dX10_swapShares_40 : decode cX10_swapShares 40 = .ok (.invokevirtual 194, 3) := by decide +kernel
theorem dX10_swapShares_43 : decode cX10_swapShares 43 = .ok (.ireturn, 1) := by decide +kernel
set_option maxRecDepth 20000 in
theorem ggX10_setValue_X10_requireSibling : GoodIn wsX10_setValue wsX10_requireSibling := goodIn_ca (goodIn_r _ [9, 10, 11, 4, 12, 13, 14, 15, 16, 17, 59, 60, 61, 62, 63, 64, 65, 66, 67, 68, 69, 70, 71, 72, 73, 74] (by decide +kernel) (by decide +kernel)) (goodIn_sub (fun _ h => List.mem_cons_of_mem _ (List.mem_append_right _ h)) (by decide +kernel))
set_option maxRecDepth 20000 in
theorem gX10_setValue_X10_requireSibling : GoodIn wsX10_setValue (wsV RX10 120 RX10 yX10_requireSibling wsX10_requireSibling) := goodIn_app (goodIn_of _ (by decide +kernel)) ggX10_setValue_X10_requireSibling
set_option maxRecDepth 20000 in
theorem ggX10_setValue_X10_requireCell : GoodIn wsX10_setValue wsX10_requireCell := goodIn_ca (goodIn_r _ [21, 10, 11, 4, 22, 23, 24, 15, 25, 26, 59, 60, 61, 62, 63, 64, 65, 66, 67, 68, 69, 70, 71, 72, 73, 74] (by decide +kernel) (by decide +kernel)) (goodIn_sub (fun _ h => List.mem_cons_of_mem _ (List.mem_append_right _ h)) (by decide +kernel))
set_option maxRecDepth 20000 in
theorem gX10_setValue_X10_requireCell : GoodIn wsX10_setValue (wsV RX10 144 RX10 yX10_requireCell wsX10_requireCell) := goodIn_app (goodIn_of _ (by decide +kernel)) ggX10_setValue_X10_requireCell
set_option maxRecDepth 20000 in
theorem ggX10_setValue_X4_rememberForUndo : GoodIn wsX10_setValue wsX4_rememberForUndo := goodIn_r _ [31, 32, 33, 34, 35, 36, 37, 38, 39, 40, 30, 41, 42, 43, 44, 45, 46, 47, 48, 49, 75, 76, 77, 78, 79, 69, 70, 71, 72, 73, 74] (by decide +kernel) (by decide +kernel)
set_option maxRecDepth 20000 in
theorem gX10_setValue_X4_rememberForUndo : GoodIn wsX10_setValue (wsV RX10 250 RX4 yX4_rememberForUndo wsX4_rememberForUndo) := goodIn_app (goodIn_of _ (by decide +kernel)) ggX10_setValue_X4_rememberForUndo
set_option maxRecDepth 20000 in
theorem ggX10_setValue_X1_valueOf : GoodIn wsX10_setValue wsX1_valueOf := goodIn_r _ [53, 54, 69, 70, 71, 72, 73, 74] (by decide +kernel) (by decide +kernel)
set_option maxRecDepth 20000 in
theorem gX10_setValue_X1_valueOf : GoodIn wsX10_setValue (wsV RX10 147 RX1 yX1_valueOf wsX1_valueOf) := goodIn_app (goodIn_of _ (by decide +kernel)) ggX10_setValue_X1_valueOf
set_option maxRecDepth 20000 in
theorem ggX10_setValue_X1_putValue : GoodIn wsX10_setValue wsX1_putValue := goodIn_r _ [58, 54, 69, 70, 71, 72, 73, 74] (by decide +kernel) (by decide +kernel)
set_option maxRecDepth 20000 in
theorem gX10_setValue_X1_putValue : GoodIn wsX10_setValue (wsV RX10 265 RX1 yX1_putValue wsX1_putValue) := goodIn_app (goodIn_of _ (by decide +kernel)) ggX10_setValue_X1_putValue
theorem dX10_setValue_0 : decode cX10_setValue 0 = .ok (.aload_n 0, 1) := by decide +kernel
theorem dX10_setValue_1 : decode cX10_setValue 1 = .ok (.iload_n 1, 1) := by decide +kernel
theorem dX10_setValue_2 : decode cX10_setValue 2 = .ok (.invokevirtual 120, 3) := by decide +kernel
theorem dX10_setValue_5 : decode cX10_setValue 5 = .ok (.aload_n 0, 1) := by decide +kernel
theorem dX10_setValue_6 : decode cX10_setValue 6 = .ok (.iload_n 2, 1) := by decide +kernel
theorem dX10_setValue_7 : decode cX10_setValue 7 = .ok (.invokevirtual 144, 3) := by decide +kernel
theorem dX10_setValue_10 : decode cX10_setValue 10 = .ok (.iload_n 3, 1) := by decide +kernel
theorem dX10_setValue_11 : decode cX10_setValue 11 = .ok (.ifCond .lt 9, 3) := by decide +kernel
theorem dX10_setValue_14 : decode cX10_setValue 14 = .ok (.iload_n 3, 1) := by decide +kernel
theorem dX10_setValue_15 : decode cX10_setValue 15 = .ok (.bipush 9, 2) := by decide +kernel
theorem dX10_setValue_17 : decode cX10_setValue 17 = .ok (.if_icmp .le 14, 3) := by decide +kernel
theorem dX10_setValue_20 : decode cX10_setValue 20 = .ok (.new 101, 3) := by decide +kernel
theorem dX10_setValue_23 : decode cX10_setValue 23 = .ok (.dup, 1) := by decide +kernel
theorem dX10_setValue_24 : decode cX10_setValue 24 = .ok (.ldc_w 263, 3) := by decide +kernel
theorem dX10_setValue_27 : decode cX10_setValue 27 = .ok (.invokespecial 105, 3) := by decide +kernel
theorem dX10_setValue_30 : decode cX10_setValue 30 = .ok (.athrow, 1) := by decide +kernel
theorem dX10_setValue_31 : decode cX10_setValue 31 = .ok (.aload_n 0, 1) := by decide +kernel
theorem dX10_setValue_32 : decode cX10_setValue 32 = .ok (.getfield 73, 3) := by decide +kernel
theorem dX10_setValue_35 : decode cX10_setValue 35 = .ok (.aload_n 0, 1) := by decide +kernel
theorem dX10_setValue_36 : decode cX10_setValue 36 = .ok (.getfield 22, 3) := by decide +kernel
theorem dX10_setValue_39 : decode cX10_setValue 39 = .ok (.invokevirtual 250, 3) := by decide +kernel
theorem dX10_setValue_42 : decode cX10_setValue 42 = .ok (.aload_n 0, 1) := by decide +kernel
theorem dX10_setValue_43 : decode cX10_setValue 43 = .ok (.getfield 22, 3) := by decide +kernel
theorem dX10_setValue_46 : decode cX10_setValue 46 = .ok (.iload_n 1, 1) := by decide +kernel
theorem dX10_setValue_47 : decode cX10_setValue 47 = .ok (.iload_n 2, 1) := by decide +kernel
theorem dX10_setValue_48 : decode cX10_setValue 48 = .ok (.invokevirtual 147, 3) := by decide +kernel
theorem dX10_setValue_51 : decode cX10_setValue 51 = .ok (.istore 4, 2) := by decide +kernel
theorem dX10_setValue_53 : decode cX10_setValue 53 = .ok (.aload_n 0, 1) := by decide +kernel
theorem dX10_setValue_54 : decode cX10_setValue 54 = .ok (.getfield 22, 3) := by decide +kernel
theorem dX10_setValue_57 : decode cX10_setValue 57 = .ok (.iload_n 1, 1) := by decide +kernel
theorem dX10_setValue_58 : decode cX10_setValue 58 = .ok (.iload_n 2, 1) := by decide +kernel
theorem dX10_setValue_59 : decode cX10_setValue 59 = .ok (.iload_n 3, 1) := by decide +kernel
theorem dX10_setValue_60 : decode cX10_setValue 60 = .ok (.invokevirtual 265, 3) := by decide +kernel
theorem dX10_setValue_63 : decode cX10_setValue 63 = .ok (.iload 4, 2) := by decide +kernel
theorem dX10_setValue_65 : decode cX10_setValue 65 = .ok (.ireturn, 1) := by decide +kernel
set_option maxRecDepth 20000 in
theorem ggX10_divideAndChoose_X10_requireSibling : GoodIn wsX10_divideAndChoose wsX10_requireSibling := goodIn_ca (goodIn_r _ [8, 9, 10, 2, 11, 12, 13, 14, 15, 16, 80, 81, 82, 83, 84, 85, 86, 87, 88, 89, 90, 91, 92, 93, 94, 95] (by decide +kernel) (by decide +kernel)) (goodIn_sub (fun _ h => List.mem_cons_of_mem _ (List.mem_append_left _ (List.mem_append_right _ h))) (by decide +kernel))
set_option maxRecDepth 20000 in
theorem gX10_divideAndChoose_X10_requireSibling : GoodIn wsX10_divideAndChoose (wsV RX10 120 RX10 yX10_requireSibling wsX10_requireSibling) := goodIn_app (goodIn_of _ (by decide +kernel)) ggX10_divideAndChoose_X10_requireSibling
set_option maxRecDepth 20000 in
theorem ggX10_divideAndChoose_X10_requireDifferent : GoodIn wsX10_divideAndChoose wsX10_requireDifferent := goodIn_ca (goodIn_r _ [20, 21, 22] (by decide +kernel) (by decide +kernel)) (goodIn_sub (fun _ h => List.mem_cons_of_mem _ (List.mem_append_right _ h)) (by decide +kernel))
set_option maxRecDepth 20000 in
theorem gX10_divideAndChoose_X10_requireDifferent : GoodIn wsX10_divideAndChoose (wsV RX10 257 RX10 yX10_requireDifferent wsX10_requireDifferent) := goodIn_app (goodIn_of _ (by decide +kernel)) ggX10_divideAndChoose_X10_requireDifferent
set_option maxRecDepth 20000 in
theorem ggX10_divideAndChoose_X4_rememberForUndo : GoodIn wsX10_divideAndChoose wsX4_rememberForUndo := goodIn_r _ [27, 28, 29, 30, 31, 32, 33, 34, 35, 36, 26, 37, 38, 39, 40, 41, 42, 43, 44, 45, 96, 97, 98, 99, 100, 90, 91, 92, 93, 94, 95] (by decide +kernel) (by decide +kernel)
set_option maxRecDepth 20000 in
theorem gX10_divideAndChoose_X4_rememberForUndo : GoodIn wsX10_divideAndChoose (wsV RX10 250 RX4 yX4_rememberForUndo wsX4_rememberForUndo) := goodIn_app (goodIn_of _ (by decide +kernel)) ggX10_divideAndChoose_X4_rememberForUndo
set_option maxRecDepth 20000 in
theorem ggX10_divideAndChoose_X6_cutAndChoose : GoodIn wsX10_divideAndChoose wsX6_cutAndChoose := goodIn_r _ [50, 51, 52, 53, 54, 55, 56, 49, 57, 58, 59, 32, 60, 61, 62, 63, 14, 64, 65, 66, 67, 68, 69, 70, 71, 72, 73, 74, 75, 76, 77, 78, 79, 101, 102, 90, 91, 92, 93, 94, 95] (by decide +kernel) (by decide +kernel)
set_option maxRecDepth 20000 in
theorem gX10_divideAndChoose_X6_cutAndChoose : GoodIn wsX10_divideAndChoose (wsV RX10 269 RX6 yX6_cutAndChoose wsX6_cutAndChoose) := goodIn_app (goodIn_of _ (by decide +kernel)) ggX10_divideAndChoose_X6_cutAndChoose
theorem dX10_divideAndChoose_0 : decode cX10_divideAndChoose 0 = .ok (.aload_n 0, 1) := by decide +kernel
theorem dX10_divideAndChoose_1 : decode cX10_divideAndChoose 1 = .ok (.iload_n 1, 1) := by decide +kernel
theorem dX10_divideAndChoose_2 : decode cX10_divideAndChoose 2 = .ok (.invokevirtual 120, 3) := by decide +kernel
theorem dX10_divideAndChoose_5 : decode cX10_divideAndChoose 5 = .ok (.aload_n 0, 1) := by decide +kernel
theorem dX10_divideAndChoose_6 : decode cX10_divideAndChoose 6 = .ok (.iload_n 2, 1) := by decide +kernel
theorem dX10_divideAndChoose_7 : decode cX10_divideAndChoose 7 = .ok (.invokevirtual 120, 3) := by decide +kernel
theorem dX10_divideAndChoose_10 : decode cX10_divideAndChoose 10 = .ok (.aload_n 0, 1) := by decide +kernel
theorem dX10_divideAndChoose_11 : decode cX10_divideAndChoose 11 = .ok (.iload_n 1, 1) := by decide +kernel
theorem dX10_divideAndChoose_12 : decode cX10_divideAndChoose 12 = .ok (.iload_n 2, 1) := by decide +kernel
theorem dX10_divideAndChoose_13 : decode cX10_divideAndChoose 13 = .ok (.invokevirtual 257, 3) := by decide +kernel
theorem dX10_divideAndChoose_16 : decode cX10_divideAndChoose 16 = .ok (.aload_n 0, 1) := by decide +kernel
theorem dX10_divideAndChoose_17 : decode cX10_divideAndChoose 17 = .ok (.getfield 73, 3) := by decide +kernel
theorem dX10_divideAndChoose_20 : decode cX10_divideAndChoose 20 = .ok (.aload_n 0, 1) := by decide +kernel
theorem dX10_divideAndChoose_21 : decode cX10_divideAndChoose 21 = .ok (.getfield 22, 3) := by decide +kernel
theorem dX10_divideAndChoose_24 : decode cX10_divideAndChoose 24 = .ok (.invokevirtual 250, 3) := by decide +kernel
theorem dX10_divideAndChoose_27 : decode cX10_divideAndChoose 27 = .ok (.aload_n 0, 1) := by decide +kernel
theorem dX10_divideAndChoose_28 : decode cX10_divideAndChoose 28 = .ok (.getfield 50, 3) := by decide +kernel
theorem dX10_divideAndChoose_31 : decode cX10_divideAndChoose 31 = .ok (.iload_n 1, 1) := by decide +kernel
theorem dX10_divideAndChoose_32 : decode cX10_divideAndChoose 32 = .ok (.iload_n 2, 1) := by decide +kernel
theorem dX10_divideAndChoose_33 : decode cX10_divideAndChoose 33 = .ok (.invokevirtual 269, 3) := by decide +kernel
theorem dX10_divideAndChoose_36 : decode cX10_divideAndChoose 36 = .ok (.ireturn, 1) := by decide +kernel
set_option maxRecDepth 20000 in
theorem ggX10_movingKnife_X4_rememberForUndo : GoodIn wsX10_movingKnife wsX4_rememberForUndo := goodIn_r _ [10, 11, 12, 13, 14, 15, 16, 17, 18, 19, 9, 20, 21, 22, 23, 24, 25, 26, 27, 28, 109, 110, 111, 112, 113, 103, 104, 105, 106, 107, 108] (by decide +kernel) (by decide +kernel)
set_option maxRecDepth 20000 in
theorem gX10_movingKnife_X4_rememberForUndo : GoodIn wsX10_movingKnife (wsV RX10 250 RX4 yX4_rememberForUndo wsX4_rememberForUndo) := goodIn_app (goodIn_of _ (by decide +kernel)) ggX10_movingKnife_X4_rememberForUndo
set_option maxRecDepth 20000 in
theorem ggX10_movingKnife_X6_divideByKnife : GoodIn wsX10_movingKnife wsX6_divideByKnife := goodIn_r _ [33, 34, 35, 36, 37, 38, 39, 32, 40, 41, 42, 43, 44, 45, 46, 47, 48, 49, 50, 51, 52, 53, 54, 55, 56, 57, 58, 59, 60, 61, 62, 63, 64, 65, 66, 114, 115, 103, 104, 105, 106, 107, 108] (by decide +kernel) (by decide +kernel)
set_option maxRecDepth 20000 in
theorem gX10_movingKnife_X6_divideByKnife : GoodIn wsX10_movingKnife (wsV RX10 272 RX6 yX6_divideByKnife wsX6_divideByKnife) := goodIn_app (goodIn_of _ (by decide +kernel)) ggX10_movingKnife_X6_divideByKnife
set_option maxRecDepth 20000 in
theorem ggX10_movingKnife_X3_countFairShares : GoodIn wsX10_movingKnife wsX3_countFairShares := goodIn_r _ [71, 72, 73, 74, 75, 76, 70, 77, 78, 79, 80, 56, 81, 82, 83, 84, 85, 86, 87, 58, 88, 89, 90, 91, 92, 54, 55, 57, 116, 117, 118, 119, 103, 104, 105, 106, 107, 108] (by decide +kernel) (by decide +kernel)
set_option maxRecDepth 20000 in
theorem gX10_movingKnife_X3_countFairShares : GoodIn wsX10_movingKnife (wsV RX10 208 RX3 yX3_countFairShares wsX3_countFairShares) := goodIn_app (goodIn_of _ (by decide +kernel)) ggX10_movingKnife_X3_countFairShares
theorem dX10_movingKnife_0 : decode cX10_movingKnife 0 = .ok (.aload_n 0, 1) := by decide +kernel
theorem dX10_movingKnife_1 : decode cX10_movingKnife 1 = .ok (.getfield 73, 3) := by decide +kernel
theorem dX10_movingKnife_4 : decode cX10_movingKnife 4 = .ok (.aload_n 0, 1) := by decide +kernel
theorem dX10_movingKnife_5 : decode cX10_movingKnife 5 = .ok (.getfield 22, 3) := by decide +kernel
theorem dX10_movingKnife_8 : decode cX10_movingKnife 8 = .ok (.invokevirtual 250, 3) := by decide +kernel
theorem dX10_movingKnife_11 : decode cX10_movingKnife 11 = .ok (.aload_n 0, 1) := by decide +kernel
theorem dX10_movingKnife_12 : decode cX10_movingKnife 12 = .ok (.getfield 50, 3) := by decide +kernel
theorem dX10_movingKnife_15 : decode cX10_movingKnife 15 = .ok (.aload_n 0, 1) := by decide +kernel
theorem dX10_movingKnife_16 : decode cX10_movingKnife 16 = .ok (.getfield 22, 3) := by decide +kernel
theorem dX10_movingKnife_19 : decode cX10_movingKnife 19 = .ok (.getfield 151, 3) := by decide +kernel
theorem dX10_movingKnife_22 : decode cX10_movingKnife 22 = .ok (.invokevirtual 272, 3) := by decide +kernel
theorem dX10_movingKnife_25 : decode cX10_movingKnife 25 = .ok (.aload_n 0, 1) := by decide +kernel
theorem dX10_movingKnife_26 : decode cX10_movingKnife 26 = .ok (.getfield 43, 3) := by decide +kernel
theorem dX10_movingKnife_29 : decode cX10_movingKnife 29 = .ok (.invokevirtual 208, 3) := by decide +kernel
theorem dX10_movingKnife_32 : decode cX10_movingKnife 32 = .ok (.ireturn, 1) := by decide +kernel
set_option maxRecDepth 20000 in
theorem ggX10_roundRobin_X10_requireSibling : GoodIn wsX10_roundRobin wsX10_requireSibling := goodIn_ca (goodIn_r _ [9, 10, 11, 2, 12, 13, 14, 15, 16, 17, 58, 59, 60, 61, 62, 63, 64, 65, 66, 67, 68, 69, 70, 71, 72, 73] (by decide +kernel) (by decide +kernel)) (goodIn_sub (fun _ h => List.mem_cons_of_mem _ (List.mem_append_right _ h)) (by decide +kernel))
set_option maxRecDepth 20000 in
theorem gX10_roundRobin_X10_requireSibling : GoodIn wsX10_roundRobin (wsV RX10 120 RX10 yX10_requireSibling wsX10_requireSibling) := goodIn_app (goodIn_of _ (by decide +kernel)) ggX10_roundRobin_X10_requireSibling
set_option maxRecDepth 20000 in
theorem ggX10_roundRobin_X4_rememberForUndo : GoodIn wsX10_roundRobin wsX4_rememberForUndo := goodIn_r _ [22, 23, 24, 25, 26, 27, 28, 29, 30, 31, 21, 32, 33, 34, 35, 36, 37, 38, 39, 40, 74, 75, 76, 77, 78, 68, 69, 70, 71, 72, 73] (by decide +kernel) (by decide +kernel)
set_option maxRecDepth 20000 in
theorem gX10_roundRobin_X4_rememberForUndo : GoodIn wsX10_roundRobin (wsV RX10 250 RX4 yX4_rememberForUndo wsX4_rememberForUndo) := goodIn_app (goodIn_of _ (by decide +kernel)) ggX10_roundRobin_X4_rememberForUndo
set_option maxRecDepth 20000 in
theorem ggX10_roundRobin_X6_divideByRobin : GoodIn wsX10_roundRobin wsX6_divideByRobin := goodIn_r _ [45, 46, 47, 48, 49, 50, 51, 44, 52, 53, 54, 55, 15, 56, 57, 79, 80, 68, 69, 70, 71, 72, 73] (by decide +kernel) (by decide +kernel)
set_option maxRecDepth 20000 in
theorem gX10_roundRobin_X6_divideByRobin : GoodIn wsX10_roundRobin (wsV RX10 276 RX6 yX6_divideByRobin wsX6_divideByRobin) := goodIn_app (goodIn_of _ (by decide +kernel)) ggX10_roundRobin_X6_divideByRobin
theorem dX10_roundRobin_0 : decode cX10_roundRobin 0 = .ok (.aload_n 0, 1) := by decide +kernel
theorem dX10_roundRobin_1 : decode cX10_roundRobin 1 = .ok (.iload_n 1, 1) := by decide +kernel
theorem dX10_roundRobin_2 : decode cX10_roundRobin 2 = .ok (.invokevirtual 120, 3) := by decide +kernel
theorem dX10_roundRobin_5 : decode cX10_roundRobin 5 = .ok (.aload_n 0, 1) := by decide +kernel
theorem dX10_roundRobin_6 : decode cX10_roundRobin 6 = .ok (.getfield 73, 3) := by decide +kernel
theorem dX10_roundRobin_9 : decode cX10_roundRobin 9 = .ok (.aload_n 0, 1) := by decide +kernel
theorem dX10_roundRobin_10 : decode cX10_roundRobin 10 = .ok (.getfield 22, 3) := by decide +kernel
theorem dX10_roundRobin_13 : decode cX10_roundRobin 13 = .ok (.invokevirtual 250, 3) := by decide +kernel
theorem dX10_roundRobin_16 : decode cX10_roundRobin 16 = .ok (.aload_n 0, 1) := by decide +kernel
theorem dX10_roundRobin_17 : decode cX10_roundRobin 17 = .ok (.getfield 50, 3) := by decide +kernel
theorem dX10_roundRobin_20 : decode cX10_roundRobin 20 = .ok (.aload_n 0, 1) := by decide +kernel
theorem dX10_roundRobin_21 : decode cX10_roundRobin 21 = .ok (.getfield 22, 3) := by decide +kernel
theorem dX10_roundRobin_24 : decode cX10_roundRobin 24 = .ok (.getfield 151, 3) := by decide +kernel
theorem dX10_roundRobin_27 : decode cX10_roundRobin 27 = .ok (.iload_n 1, 1) := by decide +kernel
theorem dX10_roundRobin_28 : decode cX10_roundRobin 28 = .ok (.invokevirtual 276, 3) := by decide +kernel
theorem dX10_roundRobin_31 : decode cX10_roundRobin 31 = .ok (.ireturn, 1) := by decide +kernel
set_option maxRecDepth 20000 in
theorem ggX10_rotate_X10_requireSibling : GoodIn wsX10_rotate wsX10_requireSibling := goodIn_ca (goodIn_r _ [10, 11, 12, 5, 13, 14, 15, 16, 17, 18, 85, 86, 87, 88, 89, 90, 91, 92, 93, 94, 95, 96, 97, 98, 99, 100] (by decide +kernel) (by decide +kernel)) (goodIn_sub (fun _ h => List.mem_cons_of_mem _ (List.mem_append_right _ h)) (by decide +kernel))
set_option maxRecDepth 20000 in
theorem gX10_rotate_X10_requireSibling : GoodIn wsX10_rotate (wsV RX10 120 RX10 yX10_requireSibling wsX10_requireSibling) := goodIn_app (goodIn_of _ (by decide +kernel)) ggX10_rotate_X10_requireSibling
set_option maxRecDepth 20000 in
theorem ggX10_rotate_X3_findCycle : GoodIn wsX10_rotate wsX3_findCycle := goodIn_r _ [23, 24, 25, 26, 27, 22, 28, 29, 30, 31, 32, 33, 34, 35, 16, 36, 37, 38, 39, 40, 41, 42, 43, 44, 45, 46, 47, 48, 49, 50, 51, 101, 102, 103, 104, 95, 96, 97, 98, 99, 100] (by decide +kernel) (by decide +kernel)
set_option maxRecDepth 20000 in
theorem gX10_rotate_X3_findCycle : GoodIn wsX10_rotate (wsV RX10 211 RX3 yX3_findCycle wsX3_findCycle) := goodIn_app (goodIn_of _ (by decide +kernel)) ggX10_rotate_X3_findCycle
set_option maxRecDepth 20000 in
theorem ggX10_rotate_X4_rememberForUndo : GoodIn wsX10_rotate wsX4_rememberForUndo := goodIn_r _ [56, 57, 58, 59, 60, 61, 62, 63, 64, 65, 55, 66, 67, 68, 69, 70, 71, 72, 73, 74, 105, 106, 107, 108, 109, 95, 96, 97, 98, 99, 100] (by decide +kernel) (by decide +kernel)
set_option maxRecDepth 20000 in
theorem gX10_rotate_X4_rememberForUndo : GoodIn wsX10_rotate (wsV RX10 250 RX4 yX4_rememberForUndo wsX4_rememberForUndo) := goodIn_app (goodIn_of _ (by decide +kernel)) ggX10_rotate_X4_rememberForUndo
set_option maxRecDepth 20000 in
theorem ggX10_rotate_X3_rotateThrough : GoodIn wsX10_rotate wsX3_rotateThrough := goodIn_r _ [78, 29, 79, 32, 80, 20, 21, 22, 23, 24, 25, 26, 27, 28, 30, 31, 33, 34, 35, 16, 36, 37, 38, 39, 40, 41, 42, 43, 44, 45, 46, 47, 48, 49, 50, 51, 81, 82, 83, 84, 101, 102, 103, 104, 95, 96, 97, 98, 99, 100] (by decide +kernel) (by decide +kernel)
set_option maxRecDepth 20000 in
theorem gX10_rotate_X3_rotateThrough : GoodIn wsX10_rotate (wsV RX10 281 RX3 yX3_rotateThrough wsX3_rotateThrough) := goodIn_app (goodIn_of _ (by decide +kernel)) ggX10_rotate_X3_rotateThrough
theorem dX10_rotate_0 : decode cX10_rotate 0 = .ok (.aload_n 0, 1) := by decide +kernel
theorem dX10_rotate_1 : decode cX10_rotate 1 = .ok (.iload_n 1, 1) := by decide +kernel
theorem dX10_rotate_2 : decode cX10_rotate 2 = .ok (.invokevirtual 120, 3) := by decide +kernel
theorem dX10_rotate_5 : decode cX10_rotate 5 = .ok (.aload_n 0, 1) := by decide +kernel
theorem dX10_rotate_6 : decode cX10_rotate 6 = .ok (.getfield 43, 3) := by decide +kernel
theorem dX10_rotate_9 : decode cX10_rotate 9 = .ok (.iload_n 1, 1) := by decide +kernel
theorem dX10_rotate_10 : decode cX10_rotate 10 = .ok (.invokevirtual 211, 3) := by decide +kernel
theorem dX10_rotate_13 : decode cX10_rotate 13 = .ok (.iconst (-1), 1) := by decide +kernel
theorem dX10_rotate_14 : decode cX10_rotate 14 = .ok (.if_icmp .ne 14, 3) := by decide +kernel
theorem dX10_rotate_17 : decode cX10_rotate 17 = .ok (.new 91, 3) := by decide +kernel
theorem dX10_rotate_20 : decode cX10_rotate 20 = .ok (.dup, 1) := by decide +kernel
theorem dX10_rotate_21 : decode cX10_rotate 21 = .ok (.ldc_w 279, 3) := by decide +kernel
theorem dX10_rotate_24 : decode cX10_rotate 24 = .ok (.invokespecial 95, 3) := by decide +kernel
theorem dX10_rotate_27 : decode cX10_rotate 27 = .ok (.athrow, 1) := by decide +kernel
theorem dX10_rotate_28 : decode cX10_rotate 28 = .ok (.aload_n 0, 1) := by decide +kernel
theorem dX10_rotate_29 : decode cX10_rotate 29 = .ok (.getfield 73, 3) := by decide +kernel
theorem dX10_rotate_32 : decode cX10_rotate 32 = .ok (.aload_n 0, 1) := by decide +kernel
theorem dX10_rotate_33 : decode cX10_rotate 33 = .ok (.getfield 22, 3) := by decide +kernel
theorem dX10_rotate_36 : decode cX10_rotate 36 = .ok (.invokevirtual 250, 3) := by decide +kernel
theorem dX10_rotate_39 : decode cX10_rotate 39 = .ok (.aload_n 0, 1) := by decide +kernel
theorem dX10_rotate_40 : decode cX10_rotate 40 = .ok (.getfield 43, 3) := by decide +kernel
theorem dX10_rotate_43 : decode cX10_rotate 43 = .ok (.iload_n 1, 1) := by decide +kernel
theorem dX10_rotate_44 : decode cX10_rotate 44 = .ok (.invokevirtual 281, 3) := by decide +kernel
theorem dX10_rotate_47 : decode cX10_rotate 47 = .ok (.ireturn, 1) := by decide +kernel
set_option maxRecDepth 20000 in
theorem ggX10_requireSibling_X1_hasSibling : GoodIn wsX10_requireSibling wsX1_hasSibling := goodIn_r _ [8, 9, 20, 21, 22, 23, 24, 25] (by decide +kernel) (by decide +kernel)
set_option maxRecDepth 20000 in
theorem gX10_requireSibling_X1_hasSibling : GoodIn wsX10_requireSibling (wsV RX10 325 RX1 yX1_hasSibling wsX1_hasSibling) := goodIn_app (goodIn_of _ (by decide +kernel)) ggX10_requireSibling_X1_hasSibling
theorem dX10_requireSibling_0 : decode cX10_requireSibling 0 = .ok (.aload_n 0, 1) := by decide +kernel
theorem dX10_requireSibling_1 : decode cX10_requireSibling 1 = .ok (.getfield 22, 3) := by decide +kernel
theorem dX10_requireSibling_4 : decode cX10_requireSibling 4 = .ok (.iload_n 1, 1) := by decide +kernel
theorem dX10_requireSibling_5 : decode cX10_requireSibling 5 = .ok (.invokevirtual 325, 3) := by decide +kernel
theorem dX10_requireSibling_8 : decode cX10_requireSibling 8 = .ok (.ifCond .ne 14, 3) := by decide +kernel
theorem dX10_requireSibling_11 : decode cX10_requireSibling 11 = .ok (.new 127, 3) := by decide +kernel
theorem dX10_requireSibling_14 : decode cX10_requireSibling 14 = .ok (.dup, 1) := by decide +kernel
theorem dX10_requireSibling_15 : decode cX10_requireSibling 15 = .ok (.ldc_w 328, 3) := by decide +kernel
theorem dX10_requireSibling_18 : decode cX10_requireSibling 18 = .ok (.invokespecial 131, 3) := by decide +kernel
theorem dX10_requireSibling_21 : decode cX10_requireSibling 21 = .ok (.athrow, 1) := by decide +kernel
theorem dX10_requireSibling_22 : decode cX10_requireSibling 22 = .ok (.return_, 1) := by decide +kernel
set_option maxRecDepth 20000 in
theorem ggX10_requireCell_X1_hasCell : GoodIn wsX10_requireCell wsX1_hasCell := goodIn_r _ [8, 9, 20, 21, 22, 23, 24, 25] (by decide +kernel) (by decide +kernel)
set_option maxRecDepth 20000 in
theorem gX10_requireCell_X1_hasCell : GoodIn wsX10_requireCell (wsV RX10 330 RX1 yX1_hasCell wsX1_hasCell) := goodIn_app (goodIn_of _ (by decide +kernel)) ggX10_requireCell_X1_hasCell
theorem dX10_requireCell_0 : decode cX10_requireCell 0 = .ok (.aload_n 0, 1) := by decide +kernel
theorem dX10_requireCell_1 : decode cX10_requireCell 1 = .ok (.getfield 22, 3) := by decide +kernel
theorem dX10_requireCell_4 : decode cX10_requireCell 4 = .ok (.iload_n 1, 1) := by decide +kernel
theorem dX10_requireCell_5 : decode cX10_requireCell 5 = .ok (.invokevirtual 330, 3) := by decide +kernel
theorem dX10_requireCell_8 : decode cX10_requireCell 8 = .ok (.ifCond .ne 14, 3) := by decide +kernel
theorem dX10_requireCell_11 : decode cX10_requireCell 11 = .ok (.new 127, 3) := by decide +kernel
theorem dX10_requireCell_14 : decode cX10_requireCell 14 = .ok (.dup, 1) := by decide +kernel
theorem dX10_requireCell_15 : decode cX10_requireCell 15 = .ok (.ldc_w 333, 3) := by decide +kernel
theorem dX10_requireCell_18 : decode cX10_requireCell 18 = .ok (.invokespecial 131, 3) := by decide +kernel
theorem dX10_requireCell_21 : decode cX10_requireCell 21 = .ok (.athrow, 1) := by decide +kernel
theorem dX10_requireCell_22 : decode cX10_requireCell 22 = .ok (.return_, 1) := by decide +kernel
set_option maxRecDepth 20000 in
theorem ggX10_requireRun_X1_hasRun : GoodIn wsX10_requireRun wsX1_hasRun := goodIn_r _ [8, 9, 10, 11, 7, 12, 13, 24, 25, 26, 27, 28, 29] (by decide +kernel) (by decide +kernel)
set_option maxRecDepth 20000 in
theorem gX10_requireRun_X1_hasRun : GoodIn wsX10_requireRun (wsV RX10 335 RX1 yX1_hasRun wsX1_hasRun) := goodIn_app (goodIn_of _ (by decide +kernel)) ggX10_requireRun_X1_hasRun
theorem dX10_requireRun_0 : decode cX10_requireRun 0 = .ok (.aload_n 0, 1) := by decide +kernel
theorem dX10_requireRun_1 : decode cX10_requireRun 1 = .ok (.getfield 22, 3) := by decide +kernel
theorem dX10_requireRun_4 : decode cX10_requireRun 4 = .ok (.iload_n 1, 1) := by decide +kernel
theorem dX10_requireRun_5 : decode cX10_requireRun 5 = .ok (.iload_n 2, 1) := by decide +kernel
theorem dX10_requireRun_6 : decode cX10_requireRun 6 = .ok (.invokevirtual 335, 3) := by decide +kernel
theorem dX10_requireRun_9 : decode cX10_requireRun 9 = .ok (.ifCond .ne 14, 3) := by decide +kernel
theorem dX10_requireRun_12 : decode cX10_requireRun 12 = .ok (.new 101, 3) := by decide +kernel
theorem dX10_requireRun_15 : decode cX10_requireRun 15 = .ok (.dup, 1) := by decide +kernel
theorem dX10_requireRun_16 : decode cX10_requireRun 16 = .ok (.ldc_w 338, 3) := by decide +kernel
theorem dX10_requireRun_19 : decode cX10_requireRun 19 = .ok (.invokespecial 105, 3) := by decide +kernel
theorem dX10_requireRun_22 : decode cX10_requireRun 22 = .ok (.athrow, 1) := by decide +kernel
theorem dX10_requireRun_23 : decode cX10_requireRun 23 = .ok (.return_, 1) := by decide +kernel
theorem dX10_requireDifferent_0 : decode cX10_requireDifferent 0 = .ok (.iload_n 1, 1) := by decide +kernel
theorem dX10_requireDifferent_1 : decode cX10_requireDifferent 1 = .ok (.iload_n 2, 1) := by decide +kernel
theorem dX10_requireDifferent_2 : decode cX10_requireDifferent 2 = .ok (.if_icmp .ne 14, 3) := by decide +kernel
theorem dX10_requireDifferent_5 : decode cX10_requireDifferent 5 = .ok (.new 91, 3) := by decide +kernel
theorem dX10_requireDifferent_8 : decode cX10_requireDifferent 8 = .ok (.dup, 1) := by decide +kernel
theorem dX10_requireDifferent_9 : decode cX10_requireDifferent 9 = .ok (.ldc_w 340, 3) := by decide +kernel
theorem dX10_requireDifferent_12 : decode cX10_requireDifferent 12 = .ok (.invokespecial 95, 3) := by decide +kernel
theorem dX10_requireDifferent_15 : decode cX10_requireDifferent 15 = .ok (.athrow, 1) := by decide +kernel
theorem dX10_requireDifferent_16 : decode cX10_requireDifferent 16 = .ok (.return_, 1) := by decide +kernel
set_option maxRecDepth 20000 in
theorem ggX10_adoptSetup_X5_readSetup : GoodIn wsX10_adoptSetup wsX5_readSetup := goodIn_r _ [11, 12, 13, 14, 15, 16, 17, 18, 10, 19, 20, 21, 22, 23, 24, 25, 26, 27, 28, 29, 30, 31, 32, 33, 34, 35, 36, 37, 38, 39, 40, 41, 42, 43, 44, 45, 46, 47, 48, 49, 50, 51, 52, 53, 54, 55, 56, 57, 58, 59, 60, 61, 62, 63, 64, 65, 66, 67, 68, 69, 70, 71, 72, 73, 74, 75, 76, 77, 78, 79, 80, 81, 82, 83, 84, 85, 86, 87, 88, 89, 90, 91, 92, 93, 94, 95, 96, 97, 98, 99, 100, 101, 102, 103, 104, 105, 106, 107, 108, 109, 110, 111, 112, 113, 114, 115, 116, 117, 118, 119, 120, 121, 122, 123, 124, 125, 126, 127, 128, 129, 130, 131, 132, 133, 134, 135, 136, 170, 171, 172, 173, 174, 175, 176, 177, 178, 179, 180, 181, 182, 168, 169, 183, 184, 185, 186] (by decide +kernel) (by decide +kernel)
set_option maxRecDepth 20000 in
theorem gX10_adoptSetup_X5_readSetup : GoodIn wsX10_adoptSetup (wsV RX10 344 RX5 yX5_readSetup wsX5_readSetup) := goodIn_app (goodIn_of _ (by decide +kernel)) ggX10_adoptSetup_X5_readSetup
set_option maxRecDepth 20000 in
theorem ggX10_adoptSetup_X1_become : GoodIn wsX10_adoptSetup wsX1_become := goodIn_r _ [140, 141, 120, 126, 142, 143, 144, 145, 125, 136, 146, 147, 148, 149, 118, 150, 177, 178, 179, 180, 181, 182] (by decide +kernel) (by decide +kernel)
set_option maxRecDepth 20000 in
theorem gX10_adoptSetup_X1_become : GoodIn wsX10_adoptSetup (wsV RX10 348 RX1 yX1_become wsX1_become) := goodIn_app (goodIn_of _ (by decide +kernel)) ggX10_adoptSetup_X1_become
set_option maxRecDepth 20000 in
theorem ggX10_adoptSetup_X4_forgetAll : GoodIn wsX10_adoptSetup wsX4_forgetAll := goodIn_r _ [155, 156, 157, 187, 188, 189, 190, 191] (by decide +kernel) (by decide +kernel)
set_option maxRecDepth 20000 in
theorem gX10_adoptSetup_X4_forgetAll : GoodIn wsX10_adoptSetup (wsV RX10 351 RX4 yX4_forgetAll wsX4_forgetAll) := goodIn_app (goodIn_of _ (by decide +kernel)) ggX10_adoptSetup_X4_forgetAll
theorem dX10_adoptSetup_0 : decode cX10_adoptSetup 0 = .ok (.aload_n 0, 1) := by decide +kernel
theorem dX10_adoptSetup_1 : decode cX10_adoptSetup 1 = .ok (.getfield 34, 3) := by decide +kernel
theorem dX10_adoptSetup_4 : decode cX10_adoptSetup 4 = .ok (.aload_n 0, 1) := by decide +kernel
theorem dX10_adoptSetup_5 : decode cX10_adoptSetup 5 = .ok (.getfield 26, 3) := by decide +kernel
theorem dX10_adoptSetup_8 : decode cX10_adoptSetup 8 = .ok (.invokevirtual 344, 3) := by decide +kernel
theorem dX10_adoptSetup_11 : decode cX10_adoptSetup 11 = .ok (.istore_n 1, 1) := by decide +kernel
theorem dX10_adoptSetup_12 : decode cX10_adoptSetup 12 = .ok (.aload_n 0, 1) := by decide +kernel
theorem dX10_adoptSetup_13 : decode cX10_adoptSetup 13 = .ok (.getfield 10, 3) := by decide +kernel
theorem dX10_adoptSetup_16 : decode cX10_adoptSetup 16 = .ok (.iconst 0, 1) := by decide +kernel
theorem dX10_adoptSetup_17 : decode cX10_adoptSetup 17 = .ok (.putfield 87, 3) := by decide +kernel
theorem dX10_adoptSetup_20 : decode cX10_adoptSetup 20 = .ok (.iload_n 1, 1) := by decide +kernel
theorem dX10_adoptSetup_21 : decode cX10_adoptSetup 21 = .ok (.ifCond .eq 21, 3) := by decide +kernel
theorem dX10_adoptSetup_24 : decode cX10_adoptSetup 24 = .ok (.aload_n 0, 1) := by decide +kernel
theorem dX10_adoptSetup_25 : decode cX10_adoptSetup 25 = .ok (.getfield 22, 3) := by decide +kernel
theorem dX10_adoptSetup_28 : decode cX10_adoptSetup 28 = .ok (.aload_n 0, 1) := by decide +kernel
theorem dX10_adoptSetup_29 : decode cX10_adoptSetup 29 = .ok (.getfield 26, 3) := by decide +kernel
theorem dX10_adoptSetup_32 : decode cX10_adoptSetup 32 = .ok (.invokevirtual 348, 3) := by decide +kernel
theorem dX10_adoptSetup_35 : decode cX10_adoptSetup 35 = .ok (.aload_n 0, 1) := by decide +kernel
theorem dX10_adoptSetup_36 : decode cX10_adoptSetup 36 = .ok (.getfield 73, 3) := by decide +kernel
theorem dX10_adoptSetup_39 : decode cX10_adoptSetup 39 = .ok (.invokevirtual 351, 3) := by decide +kernel
theorem dX10_adoptSetup_42 : decode cX10_adoptSetup 42 = .ok (.iload_n 1, 1) := by decide +kernel
theorem dX10_adoptSetup_43 : decode cX10_adoptSetup 43 = .ok (.ireturn, 1) := by decide +kernel
