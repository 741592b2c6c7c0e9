theorem dX11_thrown_0 : decode cX11_thrown 0 = .ok (.aload_n 0, 1) := by decide +kernel
theorem dX11_thrown_1 : decode cX11_thrown 1 = .ok (.getfield 1, 3) := by decide +kernel
theorem dX11_thrown_4 : decode cX11_thrown 4 = .ok (.ireturn, 1) := by decide +kernel
set_option maxRecDepth 20000 in
theorem ggX11_init_J0_length_8abf5 : GoodIn wsX11_init wsJ0_length_8abf5 := goodIn_r _ [30, 31, 32, 33, 34, 29, 35, 36, 37] (by decide +kernel) (by decide +kernel)
set_option maxRecDepth 20000 in
theorem gX11_init_J0_length_8abf5 : GoodIn wsX11_init (wsV RX11 74 RJ0 yJ0_length_8abf5 wsJ0_length_8abf5) := goodIn_app (goodIn_of _ (by decide +kernel)) ggX11_init_J0_length_8abf5
set_option maxRecDepth 20000 in
theorem ggX11_init_J0_charAt_5068e : GoodIn wsX11_init wsJ0_charAt_5068e := goodIn_r _ [41, 31, 42, 43, 44, 29, 45, 36, 37, 46, 47, 48, 49, 50, 51, 52, 53, 54, 55, 56, 57, 58, 59, 60, 61, 62, 63, 64, 65, 66, 67, 68, 69, 70, 71, 72, 73, 74] (by decide +kernel) (by decide +kernel)
set_option maxRecDepth 20000 in
theorem gX11_init_J0_charAt_5068e : GoodIn wsX11_init (wsV RX11 79 RJ0 yJ0_charAt_5068e wsJ0_charAt_5068e) := goodIn_app (goodIn_of _ (by decide +kernel)) ggX11_init_J0_charAt_5068e
set_option maxRecDepth 20000 in
theorem ggX11_init_X11_begin : GoodIn wsX11_init wsX11_begin := goodIn_r _ [79, 11, 12, 21, 80, 81, 82, 78, 83, 10, 9, 23, 22, 24, 84, 85, 86, 87, 88, 89, 129, 130, 131, 132, 133, 134, 135, 136, 137, 138, 139, 140, 141, 142, 143, 144, 145, 146, 147, 148] (by decide +kernel) (by decide +kernel)
set_option maxRecDepth 20000 in
theorem gX11_init_X11_begin : GoodIn wsX11_init (wsV RX11 83 RX11 yX11_begin wsX11_begin) := goodIn_app (goodIn_of _ (by decide +kernel)) ggX11_init_X11_begin
set_option maxRecDepth 20000 in
theorem ggX11_init_X11_parseSetup : GoodIn wsX11_init wsX11_parseSetup := goodIn_r _ [93, 5, 22, 94, 95, 96, 78, 97, 21, 23, 9, 26, 27, 28, 29, 30, 31, 32, 33, 34, 35, 36, 37, 38, 39, 40, 41, 42, 43, 44, 45, 46, 47, 48, 49, 50, 51, 52, 53, 54, 55, 56, 57, 58, 59, 60, 61, 62, 63, 64, 65, 66, 67, 68, 69, 70, 71, 72, 73, 74, 98, 99, 100, 101, 11, 12, 80, 81, 82, 83, 10, 24, 84, 85, 86, 87, 88, 89, 102, 103, 104, 105, 106, 107, 108, 109, 110, 111, 112, 113, 114, 115, 116, 117, 118, 119, 120, 121, 122, 123, 124, 125, 126, 127, 128, 129, 130, 131, 132, 133, 134, 135, 136, 137, 138, 139, 140, 141, 142, 143, 144, 145, 146, 147, 148] (by decide +kernel) (by decide +kernel)
set_option maxRecDepth 20000 in
theorem gX11_init_X11_parseSetup : GoodIn wsX11_init (wsV RX11 86 RX11 yX11_parseSetup wsX11_parseSetup) := goodIn_app (goodIn_of _ (by decide +kernel)) ggX11_init_X11_parseSetup
theorem dX11_init_0 : decode cX11_init 0 = .ok (.aload_n 0, 1) := by decide +kernel
theorem dX11_init_1 : decode cX11_init 1 = .ok (.invokespecial 7, 3) := by decide +kernel
theorem dX11_init_4 : decode cX11_init 4 = .ok (.aload_n 0, 1) := by decide +kernel
theorem dX11_init_5 : decode cX11_init 5 = .ok (.sipush 2120, 3) := by decide +kernel
theorem dX11_init_8 : decode cX11_init 8 = .ok (.newarray .int, 2) := by decide +kernel
theorem dX11_init_10 : decode cX11_init 10 = .ok (.putfield 13, 3) := by decide +kernel
theorem dX11_init_13 : decode cX11_init 13 = .ok (.aload_n 0, 1) := by decide +kernel
theorem dX11_init_14 : decode cX11_init 14 = .ok (.iconst 2, 1) := by decide +kernel
theorem dX11_init_15 : decode cX11_init 15 = .ok (.newarray .boolean, 2) := by decide +kernel
theorem dX11_init_17 : decode cX11_init 17 = .ok (.putfield 17, 3) := by decide +kernel
theorem dX11_init_20 : decode cX11_init 20 = .ok (.aload_n 0, 1) := by decide +kernel
theorem dX11_init_21 : decode cX11_init 21 = .ok (.iconst 0, 1) := by decide +kernel
theorem dX11_init_22 : decode cX11_init 22 = .ok (.putfield 21, 3) := by decide +kernel
theorem dX11_init_25 : decode cX11_init 25 = .ok (.aload_n 0, 1) := by decide +kernel
theorem dX11_init_26 : decode cX11_init 26 = .ok (.sipush 600, 3) := by decide +kernel
theorem dX11_init_29 : decode cX11_init 29 = .ok (.newarray .int, 2) := by decide +kernel
theorem dX11_init_31 : decode cX11_init 31 = .ok (.putfield 24, 3) := by decide +kernel
theorem dX11_init_34 : decode cX11_init 34 = .ok (.aload_n 0, 1) := by decide +kernel
theorem dX11_init_35 : decode cX11_init 35 = .ok (.iconst 0, 1) := by decide +kernel
theorem dX11_init_36 : decode cX11_init 36 = .ok (.putfield 27, 3) := by decide +kernel
theorem dX11_init_39 : decode cX11_init 39 = .ok (.aload_n 0, 1) := by decide +kernel
theorem dX11_init_40 : decode cX11_init 40 = .ok (.iconst 0, 1) := by decide +kernel
theorem dX11_init_41 : decode cX11_init 41 = .ok (.putfield 30, 3) := by decide +kernel
theorem dX11_init_44 : decode cX11_init 44 = .ok (.aload_n 0, 1) := by decide +kernel
theorem dX11_init_45 : decode cX11_init 45 = .ok (.iconst (-1), 1) := by decide +kernel
theorem dX11_init_46 : decode cX11_init 46 = .ok (.putfield 33, 3) := by decide +kernel
theorem dX11_init_49 : decode cX11_init 49 = .ok (.aload_n 0, 1) := by decide +kernel
theorem dX11_init_50 : decode cX11_init 50 = .ok (.sipush 240, 3) := by decide +kernel
theorem dX11_init_53 : decode cX11_init 53 = .ok (.newarray .int, 2) := by decide +kernel
theorem dX11_init_55 : decode cX11_init 55 = .ok (.putfield 36, 3) := by decide +kernel
theorem dX11_init_58 : decode cX11_init 58 = .ok (.aload_n 0, 1) := by decide +kernel
theorem dX11_init_59 : decode cX11_init 59 = .ok (.iconst 0, 1) := by decide +kernel
theorem dX11_init_60 : decode cX11_init 60 = .ok (.putfield 39, 3) := by decide +kernel
theorem dX11_init_63 : decode cX11_init 63 = .ok (.aload_n 0, 1) := by decide +kernel
theorem dX11_init_64 : decode cX11_init 64 = .ok (.iconst 0, 1) := by decide +kernel
theorem dX11_init_65 : decode cX11_init 65 = .ok (.putfield 1, 3) := by decide +kernel
theorem dX11_init_68 : decode cX11_init 68 = .ok (.aload_n 0, 1) := by decide +kernel
theorem dX11_init_69 : decode cX11_init 69 = .ok (.bipush 6, 2) := by decide +kernel
theorem dX11_init_71 : decode cX11_init 71 = .ok (.newarray .int, 2) := by decide +kernel
theorem dX11_init_73 : decode cX11_init 73 = .ok (.putfield 42, 3) := by decide +kernel
theorem dX11_init_76 : decode cX11_init 76 = .ok (.aload_n 0, 1) := by decide +kernel
theorem dX11_init_77 : decode cX11_init 77 = .ok (.bipush 6, 2) := by decide +kernel
theorem dX11_init_79 : decode cX11_init 79 = .ok (.newarray .int, 2) := by decide +kernel
theorem dX11_init_81 : decode cX11_init 81 = .ok (.putfield 45, 3) := by decide +kernel
theorem dX11_init_84 : decode cX11_init 84 = .ok (.aload_n 0, 1) := by decide +kernel
theorem dX11_init_85 : decode cX11_init 85 = .ok (.bipush 6, 2) := by decide +kernel
theorem dX11_init_87 : decode cX11_init 87 = .ok (.newarray .boolean, 2) := by decide +kernel
theorem dX11_init_89 : decode cX11_init 89 = .ok (.putfield 48, 3) := by decide +kernel
theorem dX11_init_92 : decode cX11_init 92 = .ok (.aload_n 0, 1) := by decide +kernel
theorem dX11_init_93 : decode cX11_init 93 = .ok (.sipush 1600, 3) := by decide +kernel
theorem dX11_init_96 : decode cX11_init 96 = .ok (.newarray .int, 2) := by decide +kernel
theorem dX11_init_98 : decode cX11_init 98 = .ok (.putfield 51, 3) := by decide +kernel
theorem dX11_init_101 : decode cX11_init 101 = .ok (.aload_n 0, 1) := by decide +kernel
theorem dX11_init_102 : decode cX11_init 102 = .ok (.bipush 6, 2) := by decide +kernel
theorem dX11_init_104 : decode cX11_init 104 = .ok (.newarray .int, 2) := by decide +kernel
theorem dX11_init_106 : decode cX11_init 106 = .ok (.putfield 54, 3) := by decide +kernel
theorem dX11_init_109 : decode cX11_init 109 = .ok (.aload_n 0, 1) := by decide +kernel
theorem dX11_init_110 : decode cX11_init 110 = .ok (.iconst 0, 1) := by decide +kernel
theorem dX11_init_111 : decode cX11_init 111 = .ok (.putfield 57, 3) := by decide +kernel
theorem dX11_init_114 : decode cX11_init 114 = .ok (.aload_n 0, 1) := by decide +kernel
theorem dX11_init_115 : decode cX11_init 115 = .ok (.iconst 0, 1) := by decide +kernel
theorem dX11_init_116 : decode cX11_init 116 = .ok (.putfield 60, 3) := by decide +kernel
theorem dX11_init_119 : decode cX11_init 119 = .ok (.aload_n 0, 1) := by decide +kernel
theorem dX11_init_120 : decode cX11_init 120 = .ok (.iconst 0, 1) := by decide +kernel
theorem dX11_init_121 : decode cX11_init 121 = .ok (.putfield 63, 3) := by decide +kernel
theorem dX11_init_124 : decode cX11_init 124 = .ok (.aload_n 0, 1) := by decide +kernel
theorem dX11_init_125 : decode cX11_init 125 = .ok (.iconst 0, 1) := by decide +kernel
theorem dX11_init_126 : decode cX11_init 126 = .ok (.putfield 66, 3) := by decide +kernel
theorem dX11_init_129 : decode cX11_init 129 = .ok (.aload_n 0, 1) := by decide +kernel
theorem dX11_init_130 : decode cX11_init 130 = .ok (.bipush 120, 2) := by decide +kernel
theorem dX11_init_132 : decode cX11_init 132 = .ok (.newarray .int, 2) := by decide +kernel
theorem dX11_init_134 : decode cX11_init 134 = .ok (.putfield 69, 3) := by decide +kernel
theorem dX11_init_137 : decode cX11_init 137 = .ok (.ldc 72, 2) := by decide +kernel
theorem dX11_init_139 : decode cX11_init 139 = .ok (.astore_n 1, 1) := by decide +kernel
theorem dX11_init_140 : decode cX11_init 140 = .ok (.iconst 0, 1) := by decide +kernel
theorem dX11_init_141 : decode cX11_init 141 = .ok (.istore_n 2, 1) := by decide +kernel
theorem dX11_init_142 : decode cX11_init 142 = .ok (.iload_n 2, 1) := by decide +kernel
theorem dX11_init_143 : decode cX11_init 143 = .ok (.aload_n 1, 1) := by decide +kernel
theorem dX11_init_144 : decode cX11_init 144 = .ok (.invokevirtual 74, 3) := by decide +kernel
theorem dX11_init_147 : decode cX11_init 147 = .ok (.if_icmp .ge 20, 3) := by decide +kernel
theorem dX11_init_150 : decode cX11_init 150 = .ok (.aload_n 0, 1) := by decide +kernel
theorem dX11_init_151 : decode cX11_init 151 = .ok (.getfield 24, 3) := by decide +kernel
theorem dX11_init_154 : decode cX11_init 154 = .ok (.iload_n 2, 1) := by decide +kernel
theorem dX11_init_155 : decode cX11_init 155 = .ok (.aload_n 1, 1) := by decide +kernel
theorem dX11_init_156 : decode cX11_init 156 = .ok (.iload_n 2, 1) := by decide +kernel
theorem dX11_init_157 : decode cX11_init 157 = .ok (.invokevirtual 79, 3) := by decide +kernel
theorem dX11_init_160 : decode cX11_init 160 = .ok (.iastore, 1) := by decide +kernel
theorem dX11_init_161 : decode cX11_init 161 = .ok (.iinc 2 1, 3) := by decide +kernel
theorem dX11_init_164 : decode cX11_init 164 = .ok (.goto (-22), 3) := by decide +kernel
theorem dX11_init_167 : decode cX11_init 167 = .ok (.aload_n 0, 1) := by decide +kernel
theorem dX11_init_168 : decode cX11_init 168 = .ok (.aload_n 1, 1) := by decide +kernel
theorem dX11_init_169 : decode cX11_init 169 = .ok (.invokevirtual 74, 3) := by decide +kernel
theorem dX11_init_172 : decode cX11_init 172 = .ok (.putfield 27, 3) := by decide +kernel
theorem dX11_init_175 : decode cX11_init 175 = .ok (.aload_n 0, 1) := by decide +kernel
theorem dX11_init_176 : decode cX11_init 176 = .ok (.invokevirtual 83, 3) := by decide +kernel
theorem dX11_init_179 : decode cX11_init 179 = .ok (.aload_n 0, 1) := by decide +kernel
theorem dX11_init_180 : decode cX11_init 180 = .ok (.invokevirtual 86, 3) := by decide +kernel
theorem dX11_init_183 : decode cX11_init 183 = .ok (.pop, 1) := by decide +kernel
theorem dX11_init_184 : decode cX11_init 184 = .ok (.aload_n 0, 1) := by decide +kernel
theorem dX11_init_185 : decode cX11_init 185 = .ok (.iconst 0, 1) := by decide +kernel
theorem dX11_init_186 : decode cX11_init 186 = .ok (.putfield 27, 3) := by decide +kernel
theorem dX11_init_189 : decode cX11_init 189 = .ok (.return_, 1) := by decide +kernel
theorem dX11_fails_0 : decode cX11_fails 0 = .ok (.aload_n 0, 1) := by decide +kernel
theorem dX11_fails_1 : decode cX11_fails 1 = .ok (.iload_n 1, 1) := by decide +kernel
theorem dX11_fails_2 : decode cX11_fails 2 = .ok (.ifCond .eq 7, 3) := by decide +kernel
theorem dX11_fails_5 : decode cX11_fails 5 = .ok (.iconst 1, 1) := by decide +kernel
theorem dX11_fails_6 : decode cX11_fails 6 = .ok (.goto 20, 3) := by decide +kernel
theorem dX11_fails_9 : decode cX11_fails 9 = .ok (.iload_n 2, 1) := by decide +kernel
theorem dX11_fails_10 : decode cX11_fails 10 = .ok (.ifCond .eq 7, 3) := by decide +kernel
theorem dX11_fails_13 : decode cX11_fails 13 = .ok (.iconst 2, 1) := by decide +kernel
theorem dX11_fails_14 : decode cX11_fails 14 = .ok (.goto 12, 3) := by decide +kernel
theorem dX11_fails_17 : decode cX11_fails 17 = .ok (.iload_n 3, 1) := by decide +kernel
theorem dX11_fails_18 : decode cX11_fails 18 = .ok (.ifCond .eq 7, 3) := by decide +kernel
theorem dX11_fails_21 : decode cX11_fails 21 = .ok (.iconst 3, 1) := by decide +kernel
theorem dX11_fails_22 : decode cX11_fails 22 = .ok (.goto 4, 3) := by decide +kernel
theorem dX11_fails_25 : decode cX11_fails 25 = .ok (.iconst 0, 1) := by decide +kernel
theorem dX11_fails_26 : decode cX11_fails 26 = .ok (.putfield 1, 3) := by decide +kernel
theorem dX11_fails_29 : decode cX11_fails 29 = .ok (.aload_n 0, 1) := by decide +kernel
theorem dX11_fails_30 : decode cX11_fails 30 = .ok (.getfield 1, 3) := by decide +kernel
theorem dX11_fails_33 : decode cX11_fails 33 = .ok (.ifCond .le 7, 3) := by decide +kernel
theorem dX11_fails_36 : decode cX11_fails 36 = .ok (.iconst 1, 1) := by decide +kernel
theorem dX11_fails_37 : decode cX11_fails 37 = .ok (.goto 4, 3) := by decide +kernel
theorem dX11_fails_40 : decode cX11_fails 40 = .ok (.iconst 0, 1) := by decide +kernel
theorem dX11_fails_41 : decode cX11_fails 41 = .ok (.ireturn, 1) := by decide +kernel
theorem dX11_in_0 : decode cX11_in 0 = .ok (.iload_n 0, 1) := by decide +kernel
theorem dX11_in_1 : decode cX11_in 1 = .ok (.iload_n 1, 1) := by decide +kernel
theorem dX11_in_2 : decode cX11_in 2 = .ok (.if_icmp .lt 12, 3) := by decide +kernel
theorem dX11_in_5 : decode cX11_in 5 = .ok (.iload_n 0, 1) := by decide +kernel
theorem dX11_in_6 : decode cX11_in 6 = .ok (.iload_n 2, 1) := by decide +kernel
theorem dX11_in_7 : decode cX11_in 7 = .ok (.if_icmp .gt 7, 3) := by decide +kernel
theorem dX11_in_10 : decode cX11_in 10 = .ok (.iconst 1, 1) := by decide +kernel
theorem dX11_in_11 : decode cX11_in 11 = .ok (.goto 4, 3) := by decide +kernel
theorem dX11_in_14 : decode cX11_in 14 = .ok (.iconst 0, 1) := by decide +kernel
theorem dX11_in_15 : decode cX11_in 15 = .ok (.ireturn, 1) := by decide +kernel
set_option maxRecDepth 20000 in
theorem ggX11_isSibling_X11_in : GoodIn wsX11_isSibling wsX11_in := goodIn_r _ [5] (by decide +kernel) (by decide +kernel)
set_option maxRecDepth 20000 in
theorem gX11_isSibling_X11_in : GoodIn wsX11_isSibling (va_wsS RX11 90 yX11_in wsX11_in) := goodIn_app (goodIn_of _ (by decide +kernel)) ggX11_isSibling_X11_in
theorem dX11_isSibling_0 : decode cX11_isSibling 0 = .ok (.iload_n 1, 1) := by decide +kernel
theorem dX11_isSibling_1 : decode cX11_isSibling 1 = .ok (.iconst 0, 1) := by decide +kernel
theorem dX11_isSibling_2 : decode cX11_isSibling 2 = .ok (.aload_n 0, 1) := by decide +kernel
theorem dX11_isSibling_3 : decode cX11_isSibling 3 = .ok (.getfield 13, 3) := by decide +kernel
theorem dX11_isSibling_6 : decode cX11_isSibling 6 = .ok (.iconst 1, 1) := by decide +kernel
theorem dX11_isSibling_7 : decode cX11_isSibling 7 = .ok (.iaload, 1) := by decide +kernel
theorem dX11_isSibling_8 : decode cX11_isSibling 8 = .ok (.iconst 1, 1) := by decide +kernel
theorem dX11_isSibling_9 : decode cX11_isSibling 9 = .ok (.isub, 1) := by decide +kernel
theorem dX11_isSibling_10 : decode cX11_isSibling 10 = .ok (.invokestatic 90, 3) := by decide +kernel
theorem dX11_isSibling_13 : decode cX11_isSibling 13 = .ok (.ireturn, 1) := by decide +kernel
set_option maxRecDepth 20000 in
theorem ggX11_areSiblings_X11_isSibling : GoodIn wsX11_areSiblings wsX11_isSibling := goodIn_r _ [5, 6, 7, 8, 4, 9, 10, 11, 12, 13, 14, 15, 16, 17, 18, 19, 20, 21, 22, 23, 24, 25, 26, 27, 28, 29] (by decide +kernel) (by decide +kernel)
set_option maxRecDepth 20000 in
theorem gX11_areSiblings_X11_isSibling : GoodIn wsX11_areSiblings (wsV RX11 94 RX11 yX11_isSibling wsX11_isSibling) := goodIn_app (goodIn_of _ (by decide +kernel)) ggX11_areSiblings_X11_isSibling
theorem dX11_areSiblings_0 : decode cX11_areSiblings 0 = .ok (.aload_n 0, 1) := by decide +kernel
theorem dX11_areSiblings_1 : decode cX11_areSiblings 1 = .ok (.iload_n 1, 1) := by decide +kernel
theorem dX11_areSiblings_2 : decode cX11_areSiblings 2 = .ok (.invokevirtual 94, 3) := by decide +kernel
theorem dX11_areSiblings_5 : decode cX11_areSiblings 5 = .ok (.ifCond .eq 15, 3) := by decide +kernel
theorem dX11_areSiblings_8 : decode cX11_areSiblings 8 = .ok (.aload_n 0, 1) := by decide +kernel
theorem dX11_areSiblings_9 : decode cX11_areSiblings 9 = .ok (.iload_n 2, 1) := by decide +kernel
theorem dX11_areSiblings_10 : decode cX11_areSiblings 10 = .ok (.invokevirtual 94, 3) := by decide +kernel
theorem dX11_areSiblings_13 : decode cX11_areSiblings 13 = .ok (.ifCond .eq 7, 3) := by decide +kernel
theorem dX11_areSiblings_16 : decode cX11_areSiblings 16 = .ok (.iconst 1, 1) := by decide +kernel
theorem dX11_areSiblings_17 : decode cX11_areSiblings 17 = .ok (.goto 4, 3) := by decide +kernel
theorem dX11_areSiblings_20 : decode cX11_areSiblings 20 = .ok (.iconst 0, 1) := by decide +kernel
theorem dX11_areSiblings_21 : decode cX11_areSiblings 21 = .ok (.ireturn, 1) := by decide +kernel
set_option maxRecDepth 20000 in
theorem ggX11_isCell_X11_in : GoodIn wsX11_isCell wsX11_in := goodIn_r _ [5] (by decide +kernel) (by decide +kernel)
set_option maxRecDepth 20000 in
theorem gX11_isCell_X11_in : GoodIn wsX11_isCell (va_wsS RX11 90 yX11_in wsX11_in) := goodIn_app (goodIn_of _ (by decide +kernel)) ggX11_isCell_X11_in
theorem dX11_isCell_0 : decode cX11_isCell 0 = .ok (.iload_n 1, 1) := by decide +kernel
theorem dX11_isCell_1 : decode cX11_isCell 1 = .ok (.iconst 0, 1) := by decide +kernel
theorem dX11_isCell_2 : decode cX11_isCell 2 = .ok (.aload_n 0, 1) := by decide +kernel
theorem dX11_isCell_3 : decode cX11_isCell 3 = .ok (.getfield 13, 3) := by decide +kernel
theorem dX11_isCell_6 : decode cX11_isCell 6 = .ok (.iconst 0, 1) := by decide +kernel
theorem dX11_isCell_7 : decode cX11_isCell 7 = .ok (.iaload, 1) := by decide +kernel
theorem dX11_isCell_8 : decode cX11_isCell 8 = .ok (.iconst 1, 1) := by decide +kernel
theorem dX11_isCell_9 : decode cX11_isCell 9 = .ok (.isub, 1) := by decide +kernel
theorem dX11_isCell_10 : decode cX11_isCell 10 = .ok (.invokestatic 90, 3) := by decide +kernel
theorem dX11_isCell_13 : decode cX11_isCell 13 = .ok (.ireturn, 1) := by decide +kernel
set_option maxRecDepth 20000 in
theorem ggX11_isRange_X11_isCell : GoodIn wsX11_isRange wsX11_isCell := goodIn_r _ [5, 6, 7, 8, 4, 9, 10, 11, 12, 13, 14, 15, 16, 17, 18, 19, 20, 21, 22, 23, 24, 25, 26, 27, 28, 29] (by decide +kernel) (by decide +kernel)
set_option maxRecDepth 20000 in
theorem gX11_isRange_X11_isCell : GoodIn wsX11_isRange (wsV RX11 98 RX11 yX11_isCell wsX11_isCell) := goodIn_app (goodIn_of _ (by decide +kernel)) ggX11_isRange_X11_isCell
theorem dX11_isRange_0 : decode cX11_isRange 0 = .ok (.aload_n 0, 1) := by decide +kernel
theorem dX11_isRange_1 : decode cX11_isRange 1 = .ok (.iload_n 1, 1) := by decide +kernel
theorem dX11_isRange_2 : decode cX11_isRange 2 = .ok (.invokevirtual 98, 3) := by decide +kernel
theorem dX11_isRange_5 : decode cX11_isRange 5 = .ok (.ifCond .eq 20, 3) := by decide +kernel
theorem dX11_isRange_8 : decode cX11_isRange 8 = .ok (.aload_n 0, 1) := by decide +kernel
theorem dX11_isRange_9 : decode cX11_isRange 9 = .ok (.iload_n 2, 1) := by decide +kernel
theorem dX11_isRange_10 : decode cX11_isRange 10 = .ok (.invokevirtual 98, 3) := by decide +kernel
theorem dX11_isRange_13 : decode cX11_isRange 13 = .ok (.ifCond .eq 12, 3) := by decide +kernel
theorem dX11_isRange_16 : decode cX11_isRange 16 = .ok (.iload_n 1, 1) := by decide +kernel
theorem dX11_isRange_17 : decode cX11_isRange 17 = .ok (.iload_n 2, 1) := by decide +kernel
theorem dX11_isRange_18 : decode cX11_isRange 18 = .ok (.if_icmp .gt 7, 3) := by decide +kernel
theorem dX11_isRange_21 : decode cX11_isRange 21 = .ok (.iconst 1, 1) := by decide +kernel
theorem dX11_isRange_22 : decode cX11_isRange 22 = .ok (.goto 4, 3) := by decide +kernel
theorem dX11_isRange_25 : decode cX11_isRange 25 = .ok (.iconst 0, 1) := by decide +kernel
theorem dX11_isRange_26 : decode cX11_isRange 26 = .ok (.ireturn, 1) := by decide +kernel
theorem dX11_valueOf_0 : decode cX11_valueOf 0 = .ok (.aload_n 0, 1) := by decide +kernel
theorem dX11_valueOf_1 : decode cX11_valueOf 1 = .ok (.getfield 13, 3) := by decide +kernel
theorem dX11_valueOf_4 : decode cX11_valueOf 4 = .ok (.bipush 26, 2) := by decide +kernel
theorem dX11_valueOf_6 : decode cX11_valueOf 6 = .ok (.iload_n 1, 1) := by decide +kernel
theorem dX11_valueOf_7 : decode cX11_valueOf 7 = .ok (.bipush 31, 2) := by decide +kernel
theorem dX11_valueOf_9 : decode cX11_valueOf 9 = .ok (.imul, 1) := by decide +kernel
theorem dX11_valueOf_10 : decode cX11_valueOf 10 = .ok (.iadd, 1) := by decide +kernel
theorem dX11_valueOf_11 : decode cX11_valueOf 11 = .ok (.bipush 7, 2) := by decide +kernel
theorem dX11_valueOf_13 : decode cX11_valueOf 13 = .ok (.iadd, 1) := by decide +kernel
theorem dX11_valueOf_14 : decode cX11_valueOf 14 = .ok (.iload_n 2, 1) := by decide +kernel
theorem dX11_valueOf_15 : decode cX11_valueOf 15 = .ok (.iadd, 1) := by decide +kernel
theorem dX11_valueOf_16 : decode cX11_valueOf 16 = .ok (.iaload, 1) := by decide +kernel
theorem dX11_valueOf_17 : decode cX11_valueOf 17 = .ok (.ireturn, 1) := by decide +kernel
theorem dX11_ownerOf_0 : decode cX11_ownerOf 0 = .ok (.aload_n 0, 1) := by decide +kernel
theorem dX11_ownerOf_1 : decode cX11_ownerOf 1 = .ok (.getfield 13, 3) := by decide +kernel
theorem dX11_ownerOf_4 : decode cX11_ownerOf 4 = .ok (.iconst 2, 1) := by decide +kernel
theorem dX11_ownerOf_5 : decode cX11_ownerOf 5 = .ok (.iload_n 1, 1) := by decide +kernel
theorem dX11_ownerOf_6 : decode cX11_ownerOf 6 = .ok (.iadd, 1) := by decide +kernel
theorem dX11_ownerOf_7 : decode cX11_ownerOf 7 = .ok (.iaload, 1) := by decide +kernel
theorem dX11_ownerOf_8 : decode cX11_ownerOf 8 = .ok (.ireturn, 1) := by decide +kernel
theorem dX11_copyBlock_0 : decode cX11_copyBlock 0 = .ok (.iconst 0, 1) := by decide +kernel
theorem dX11_copyBlock_1 : decode cX11_copyBlock 1 = .ok (.istore_n 3, 1) := by decide +kernel
theorem dX11_copyBlock_2 : decode cX11_copyBlock 2 = .ok (.iload_n 3, 1) := by decide +kernel
theorem dX11_copyBlock_3 : decode cX11_copyBlock 3 = .ok (.sipush 212, 3) := by decide +kernel
theorem dX11_copyBlock_6 : decode cX11_copyBlock 6 = .ok (.if_icmp .ge 33, 3) := by decide +kernel
theorem dX11_copyBlock_9 : decode cX11_copyBlock 9 = .ok (.aload_n 0, 1) := by decide +kernel
theorem dX11_copyBlock_10 : decode cX11_copyBlock 10 = .ok (.getfield 13, 3) := by decide +kernel
theorem dX11_copyBlock_13 : decode cX11_copyBlock 13 = .ok (.iload_n 2, 1) := by decide +kernel
theorem dX11_copyBlock_14 : decode cX11_copyBlock 14 = .ok (.sipush 212, 3) := by decide +kernel
theorem dX11_copyBlock_17 : decode cX11_copyBlock 17 = .ok (.imul, 1) := by decide +kernel
theorem dX11_copyBlock_18 : decode cX11_copyBlock 18 = .ok (.iload_n 3, 1) := by decide +kernel
theorem dX11_copyBlock_19 : decode cX11_copyBlock 19 = .ok (.iadd, 1) := by decide +kernel
theorem dX11_copyBlock_20 : decode cX11_copyBlock 20 = .ok (.aload_n 0, 1) := by decide +kernel
theorem dX11_copyBlock_21 : decode cX11_copyBlock 21 = .ok (.getfield 13, 3) := by decide +kernel
theorem dX11_copyBlock_24 : decode cX11_copyBlock 24 = .ok (.iload_n 1, 1) := by decide +kernel
theorem dX11_copyBlock_25 : decode cX11_copyBlock 25 = .ok (.sipush 212, 3) := by decide +kernel
theorem dX11_copyBlock_28 : decode cX11_copyBlock 28 = .ok (.imul, 1) := by decide +kernel
theorem dX11_copyBlock_29 : decode cX11_copyBlock 29 = .ok (.iload_n 3, 1) := by decide +kernel
theorem dX11_copyBlock_30 : decode cX11_copyBlock 30 = .ok (.iadd, 1) := by decide +kernel
theorem dX11_copyBlock_31 : decode cX11_copyBlock 31 = .ok (.iaload, 1) := by decide +kernel
theorem dX11_copyBlock_32 : decode cX11_copyBlock 32 = .ok (.iastore, 1) := by decide +kernel
theorem dX11_copyBlock_33 : decode cX11_copyBlock 33 = .ok (.iinc 3 1, 3) := by decide +kernel
theorem dX11_copyBlock_36 : decode cX11_copyBlock 36 = .ok (.goto (-34), 3) := by decide +kernel
theorem dX11_copyBlock_39 : decode cX11_copyBlock 39 = .ok (.return_, 1) := by decide +kernel
set_option maxRecDepth 20000 in
theorem ggX11_remember_X11_copyBlock : GoodIn wsX11_remember wsX11_copyBlock := goodIn_r _ [6, 7, 8, 9, 10, 11, 12, 13, 14, 15, 16, 17, 18, 19, 20, 21, 22, 23, 24, 25, 26, 27] (by decide +kernel) (by decide +kernel)
set_option maxRecDepth 20000 in
theorem gX11_remember_X11_copyBlock : GoodIn wsX11_remember (wsV RX11 101 RX11 yX11_copyBlock wsX11_copyBlock) := goodIn_app (goodIn_of _ (by decide +kernel)) ggX11_remember_X11_copyBlock
theorem dX11_remember_0 : decode cX11_remember 0 = .ok (.aload_n 0, 1) := by decide +kernel
theorem dX11_remember_1 : decode cX11_remember 1 = .ok (.getfield 21, 3) := by decide +kernel
theorem dX11_remember_4 : decode cX11_remember 4 = .ok (.bipush 6, 2) := by decide +kernel
theorem dX11_remember_6 : decode cX11_remember 6 = .ok (.if_icmp .ne 35, 3) := by decide +kernel
theorem dX11_remember_9 : decode cX11_remember 9 = .ok (.iconst 1, 1) := by decide +kernel
theorem dX11_remember_10 : decode cX11_remember 10 = .ok (.istore_n 2, 1) := by decide +kernel
theorem dX11_remember_11 : decode cX11_remember 11 = .ok (.iload_n 2, 1) := by decide +kernel
theorem dX11_remember_12 : decode cX11_remember 12 = .ok (.bipush 6, 2) := by decide +kernel
theorem dX11_remember_14 : decode cX11_remember 14 = .ok (.if_icmp .ge 17, 3) := by decide +kernel
theorem dX11_remember_17 : decode cX11_remember 17 = .ok (.aload_n 0, 1) := by decide +kernel
theorem dX11_remember_18 : decode cX11_remember 18 = .ok (.iload_n 2, 1) := by decide +kernel
theorem dX11_remember_19 : decode cX11_remember 19 = .ok (.iconst 1, 1) := by decide +kernel
theorem dX11_remember_20 : decode cX11_remember 20 = .ok (.iadd, 1) := by decide +kernel
theorem dX11_remember_21 : decode cX11_remember 21 = .ok (.iload_n 2, 1) := by decide +kernel
theorem dX11_remember_22 : decode cX11_remember 22 = .ok (.invokevirtual 101, 3) := by decide +kernel
theorem dX11_remember_25 : decode cX11_remember 25 = .ok (.iinc 2 1, 3) := by decide +kernel
theorem dX11_remember_28 : decode cX11_remember 28 = .ok (.goto (-17), 3) := by decide +kernel
theorem dX11_remember_31 : decode cX11_remember 31 = .ok (.aload_n 0, 1) := by decide +kernel
theorem dX11_remember_32 : decode cX11_remember 32 = .ok (.dup, 1) := by decide +kernel
theorem dX11_remember_33 : decode cX11_remember 33 = .ok (.getfield 21, 3) := by decide +kernel
theorem dX11_remember_36 : decode cX11_remember 36 = .ok (.iconst 1, 1) := by decide +kernel
theorem dX11_remember_37 : decode cX11_remember 37 = .ok (.isub, 1) := by decide +kernel
theorem dX11_remember_38 : decode cX11_remember 38 = .ok (.putfield 21, 3) := by decide +kernel
theorem dX11_remember_41 : decode cX11_remember 41 = .ok (.aload_n 0, 1) := by decide +kernel
theorem dX11_remember_42 : decode cX11_remember 42 = .ok (.dup, 1) := by decide +kernel
theorem dX11_remember_43 : decode cX11_remember 43 = .ok (.getfield 21, 3) := by decide +kernel
theorem dX11_remember_46 : decode cX11_remember 46 = .ok (.iconst 1, 1) := by decide +kernel
theorem dX11_remember_47 : decode cX11_remember 47 = .ok (.iadd, 1) := by decide +kernel
theorem dX11_remember_48 : decode cX11_remember 48 = .ok (.putfield 21, 3) := by decide +kernel
theorem dX11_remember_51 : decode cX11_remember 51 = .ok (.aload_n 0, 1) := by decide +kernel
theorem dX11_remember_52 : decode cX11_remember 52 = .ok (.iload_n 1, 1) := by decide +kernel
theorem dX11_remember_53 : decode cX11_remember 53 = .ok (.aload_n 0, 1) := by decide +kernel
theorem dX11_remember_54 : decode cX11_remember 54 = .ok (.getfield 21, 3) := by decide +kernel
theorem dX11_remember_57 : decode cX11_remember 57 = .ok (.invokevirtual 101, 3) := by decide +kernel
theorem dX11_remember_60 : decode cX11_remember 60 = .ok (.return_, 1) := by decide +kernel
set_option maxRecDepth 20000 in
theorem ggX11_worthOf_X11_valueOf : GoodIn wsX11_worthOf wsX11_valueOf := goodIn_r _ [5, 6, 7, 8, 9, 10, 11, 12, 13, 14, 15, 16, 17, 18, 19, 20, 21, 22, 23, 24, 25, 26] (by decide +kernel) (by decide +kernel)
set_option maxRecDepth 20000 in
theorem gX11_worthOf_X11_valueOf : GoodIn wsX11_worthOf (wsV RX11 105 RX11 yX11_valueOf wsX11_valueOf) := goodIn_app (goodIn_of _ (by decide +kernel)) ggX11_worthOf_X11_valueOf
theorem dX11_worthOf_0 : decode cX11_worthOf 0 = .ok (.iconst 0, 1) := by decide +kernel
theorem dX11_worthOf_1 : decode cX11_worthOf 1 = .ok (.istore 4, 2) := by decide +kernel
theorem dX11_worthOf_3 : decode cX11_worthOf 3 = .ok (.iload_n 2, 1) := by decide +kernel
theorem dX11_worthOf_4 : decode cX11_worthOf 4 = .ok (.istore 5, 2) := by decide +kernel
theorem dX11_worthOf_6 : decode cX11_worthOf 6 = .ok (.iload 5, 2) := by decide +kernel
theorem dX11_worthOf_8 : decode cX11_worthOf 8 = .ok (.iload_n 3, 1) := by decide +kernel
theorem dX11_worthOf_9 : decode cX11_worthOf 9 = .ok (.if_icmp .gt 21, 3) := by decide +kernel
theorem dX11_worthOf_12 : decode cX11_worthOf 12 = .ok (.iload 4, 2) := by decide +kernel
theorem dX11_worthOf_14 : decode cX11_worthOf 14 = .ok (.aload_n 0, 1) := by decide +kernel
theorem dX11_worthOf_15 : decode cX11_worthOf 15 = .ok (.iload_n 1, 1) := by decide +kernel
theorem dX11_worthOf_16 : decode cX11_worthOf 16 = .ok (.iload 5, 2) := by decide +kernel
theorem dX11_worthOf_18 : decode cX11_worthOf 18 = .ok (.invokevirtual 105, 3) := by decide +kernel
theorem dX11_worthOf_21 : decode cX11_worthOf 21 = .ok (.iadd, 1) := by decide +kernel
theorem dX11_worthOf_22 : decode cX11_worthOf 22 = .ok (.istore 4, 2) := by decide +kernel
theorem dX11_worthOf_24 : decode cX11_worthOf 24 = .ok (.iinc 5 1, 3) := by decide +kernel
theorem dX11_worthOf_27 : decode cX11_worthOf 27 = .ok (.goto (-21), 3) := by decide +kernel
theorem dX11_worthOf_30 : decode cX11_worthOf 30 = .ok (.iload 4, 2) := by decide +kernel
theorem dX11_worthOf_32 : decode cX11_worthOf 32 = .ok (.ireturn, 1) := by decide +kernel
set_option maxRecDepth 20000 in
theorem ggX11_totalOf_X11_worthOf : GoodIn wsX11_totalOf wsX11_worthOf := goodIn_r _ [6, 7, 8, 9, 5, 10, 1, 11, 12, 13, 14, 15, 16, 17, 18, 19, 20, 21, 22, 23, 24, 25, 26, 27, 28, 29, 30] (by decide +kernel) (by decide +kernel)
set_option maxRecDepth 20000 in
theorem gX11_totalOf_X11_worthOf : GoodIn wsX11_totalOf (wsV RX11 109 RX11 yX11_worthOf wsX11_worthOf) := goodIn_app (goodIn_of _ (by decide +kernel)) ggX11_totalOf_X11_worthOf
theorem dX11_totalOf_0 : decode cX11_totalOf 0 = .ok (.aload_n 0, 1) := by decide +kernel
theorem dX11_totalOf_1 : decode cX11_totalOf 1 = .ok (.iload_n 1, 1) := by decide +kernel
theorem dX11_totalOf_2 : decode cX11_totalOf 2 = .ok (.iconst 0, 1) := by decide +kernel
theorem dX11_totalOf_3 : decode cX11_totalOf 3 = .ok (.aload_n 0, 1) := by decide +kernel
theorem dX11_totalOf_4 : decode cX11_totalOf 4 = .ok (.getfield 13, 3) := by decide +kernel
theorem dX11_totalOf_7 : decode cX11_totalOf 7 = .ok (.iconst 0, 1) := by decide +kernel
theorem dX11_totalOf_8 : decode cX11_totalOf 8 = .ok (.iaload, 1) := by decide +kernel
theorem dX11_totalOf_9 : decode cX11_totalOf 9 = .ok (.iconst 1, 1) := by decide +kernel
theorem dX11_totalOf_10 : decode cX11_totalOf 10 = .ok (.isub, 1) := by decide +kernel
theorem dX11_totalOf_11 : decode cX11_totalOf 11 = .ok (.invokevirtual 109, 3) := by decide +kernel
theorem dX11_totalOf_14 : decode cX11_totalOf 14 = .ok (.ireturn, 1) := by decide +kernel
set_option maxRecDepth 20000 in
theorem ggX11_worthShare_X11_ownerOf : GoodIn wsX11_worthShare wsX11_ownerOf := goodIn_r _ [6, 1, 11, 12, 13, 14, 15, 16, 17, 18, 19, 20, 21, 22, 23, 24, 25, 26, 27, 28, 29, 30] (by decide +kernel) (by decide +kernel)
set_option maxRecDepth 20000 in
theorem gX11_worthShare_X11_ownerOf : GoodIn wsX11_worthShare (wsV RX11 113 RX11 yX11_ownerOf wsX11_ownerOf) := goodIn_app (goodIn_of _ (by decide +kernel)) ggX11_worthShare_X11_ownerOf
set_option maxRecDepth 20000 in
theorem ggX11_worthShare_X11_valueOf : GoodIn wsX11_worthShare wsX11_valueOf := goodIn_r _ [10, 1, 11, 12, 13, 14, 15, 16, 17, 18, 19, 20, 21, 22, 23, 24, 25, 26, 27, 28, 29, 30] (by decide +kernel) (by decide +kernel)
set_option maxRecDepth 20000 in
theorem gX11_worthShare_X11_valueOf : GoodIn wsX11_worthShare (wsV RX11 105 RX11 yX11_valueOf wsX11_valueOf) := goodIn_app (goodIn_of _ (by decide +kernel)) ggX11_worthShare_X11_valueOf
theorem dX11_worthShare_0 : decode cX11_worthShare 0 = .ok (.iconst 0, 1) := by decide +kernel
theorem dX11_worthShare_1 : decode cX11_worthShare 1 = .ok (.istore_n 3, 1) := by decide +kernel
theorem dX11_worthShare_2 : decode cX11_worthShare 2 = .ok (.iconst 0, 1) := by decide +kernel
theorem dX11_worthShare_3 : decode cX11_worthShare 3 = .ok (.istore 4, 2) := by decide +kernel
theorem dX11_worthShare_5 : decode cX11_worthShare 5 = .ok (.iload 4, 2) := by decide +kernel
theorem dX11_worthShare_7 : decode cX11_worthShare 7 = .ok (.aload_n 0, 1) := by decide +kernel
theorem dX11_worthShare_8 : decode cX11_worthShare 8 = .ok (.getfield 13, 3) := by decide +kernel
theorem dX11_worthShare_11 : decode cX11_worthShare 11 = .ok (.iconst 0, 1) := by decide +kernel
theorem dX11_worthShare_12 : decode cX11_worthShare 12 = .ok (.iaload, 1) := by decide +kernel
theorem dX11_worthShare_13 : decode cX11_worthShare 13 = .ok (.if_icmp .ge 33, 3) := by decide +kernel
theorem dX11_worthShare_16 : decode cX11_worthShare 16 = .ok (.iload_n 3, 1) := by decide +kernel
theorem dX11_worthShare_17 : decode cX11_worthShare 17 = .ok (.aload_n 0, 1) := by decide +kernel
theorem dX11_worthShare_18 : decode cX11_worthShare 18 = .ok (.iload 4, 2) := by decide +kernel
theorem dX11_worthShare_20 : decode cX11_worthShare 20 = .ok (.invokevirtual 113, 3) := by decide +kernel
theorem dX11_worthShare_23 : decode cX11_worthShare 23 = .ok (.iload_n 2, 1) := by decide +kernel
theorem dX11_worthShare_24 : decode cX11_worthShare 24 = .ok (.if_icmp .ne 13, 3) := by decide +kernel
theorem dX11_worthShare_27 : decode cX11_worthShare 27 = .ok (.aload_n 0, 1) := by decide +kernel
theorem dX11_worthShare_28 : decode cX11_worthShare 28 = .ok (.iload_n 1, 1) := by decide +kernel
theorem dX11_worthShare_29 : decode cX11_worthShare 29 = .ok (.iload 4, 2) := by decide +kernel
theorem dX11_worthShare_31 : decode cX11_worthShare 31 = .ok (.invokevirtual 105, 3) := by decide +kernel
theorem dX11_worthShare_34 : decode cX11_worthShare 34 = .ok (.goto 4, 3) := by decide +kernel
theorem dX11_worthShare_37 : decode cX11_worthShare 37 = .ok (.iconst 0, 1) := by decide +kernel
theorem dX11_worthShare_38 : decode cX11_worthShare 38 = .ok (.iadd, 1) := by decide +kernel
theorem dX11_worthShare_39 : decode cX11_worthShare 39 = .ok (.istore_n 3, 1) := by decide +kernel
theorem dX11_worthShare_40 : decode cX11_worthShare 40 = .ok (.iinc 4 1, 3) := by decide +kernel
theorem dX11_worthShare_43 : decode cX11_worthShare 43 = .ok (.goto (-38), 3) := by decide +kernel
theorem dX11_worthShare_46 : decode cX11_worthShare 46 = .ok (.iload_n 3, 1) := by decide +kernel
theorem dX11_worthShare_47 : decode cX11_worthShare 47 = .ok (.ireturn, 1) := by decide +kernel
set_option maxRecDepth 20000 in
theorem ggX11_welfareOf_X11_worthShare : GoodIn wsX11_welfareOf wsX11_worthShare := goodIn_r _ [5, 6, 7, 8, 9, 4, 10, 11, 12, 13, 14, 15, 16, 17, 18, 19, 20, 21, 22, 23, 24, 25, 26, 27, 28, 29, 30, 31, 32, 33, 34] (by decide +kernel) (by decide +kernel)
set_option maxRecDepth 20000 in
theorem gX11_welfareOf_X11_worthShare : GoodIn wsX11_welfareOf (wsV RX11 117 RX11 yX11_worthShare wsX11_worthShare) := goodIn_app (goodIn_of _ (by decide +kernel)) ggX11_welfareOf_X11_worthShare
theorem dX11_welfareOf_0 : decode cX11_welfareOf 0 = .ok (.aload_n 0, 1) := by decide +kernel
theorem dX11_welfareOf_1 : decode cX11_welfareOf 1 = .ok (.iload_n 1, 1) := by decide +kernel
theorem dX11_welfareOf_2 : decode cX11_welfareOf 2 = .ok (.iload_n 1, 1) := by decide +kernel
theorem dX11_welfareOf_3 : decode cX11_welfareOf 3 = .ok (.invokevirtual 117, 3) := by decide +kernel
theorem dX11_welfareOf_6 : decode cX11_welfareOf 6 = .ok (.ireturn, 1) := by decide +kernel
set_option maxRecDepth 20000 in
theorem ggX11_sizeOf_X11_ownerOf : GoodIn wsX11_sizeOf wsX11_ownerOf := goodIn_r _ [6, 1, 7, 8, 9, 10, 11, 12, 13, 14, 15, 16, 17, 18, 19, 20, 21, 22, 23, 24, 25, 26] (by decide +kernel) (by decide +kernel)
set_option maxRecDepth 20000 in
theorem gX11_sizeOf_X11_ownerOf : GoodIn wsX11_sizeOf (wsV RX11 113 RX11 yX11_ownerOf wsX11_ownerOf) := goodIn_app (goodIn_of _ (by decide +kernel)) ggX11_sizeOf_X11_ownerOf
theorem dX11_sizeOf_0 : decode cX11_sizeOf 0 = .ok (.iconst 0, 1) := by decide +kernel
theorem dX11_sizeOf_1 : decode cX11_sizeOf 1 = .ok (.istore_n 2, 1) := by decide +kernel
theorem dX11_sizeOf_2 : decode cX11_sizeOf 2 = .ok (.iconst 0, 1) := by decide +kernel
theorem dX11_sizeOf_3 : decode cX11_sizeOf 3 = .ok (.istore_n 3, 1) := by decide +kernel
theorem dX11_sizeOf_4 : decode cX11_sizeOf 4 = .ok (.iload_n 3, 1) := by decide +kernel
theorem dX11_sizeOf_5 : decode cX11_sizeOf 5 = .ok (.aload_n 0, 1) := by decide +kernel
theorem dX11_sizeOf_6 : decode cX11_sizeOf 6 = .ok (.getfield 13, 3) := by decide +kernel
theorem dX11_sizeOf_9 : decode cX11_sizeOf 9 = .ok (.iconst 0, 1) := by decide +kernel
theorem dX11_sizeOf_10 : decode cX11_sizeOf 10 = .ok (.iaload, 1) := by decide +kernel
theorem dX11_sizeOf_11 : decode cX11_sizeOf 11 = .ok (.if_icmp .ge 26, 3) := by decide +kernel
theorem dX11_sizeOf_14 : decode cX11_sizeOf 14 = .ok (.iload_n 2, 1) := by decide +kernel
theorem dX11_sizeOf_15 : decode cX11_sizeOf 15 = .ok (.aload_n 0, 1) := by decide +kernel
theorem dX11_sizeOf_16 : decode cX11_sizeOf 16 = .ok (.iload_n 3, 1) := by decide +kernel
theorem dX11_sizeOf_17 : decode cX11_sizeOf 17 = .ok (.invokevirtual 113, 3) := by decide +kernel
theorem dX11_sizeOf_20 : decode cX11_sizeOf 20 = .ok (.iload_n 1, 1) := by decide +kernel
theorem dX11_sizeOf_21 : decode cX11_sizeOf 21 = .ok (.if_icmp .ne 7, 3) := by decide +kernel
theorem dX11_sizeOf_24 : decode cX11_sizeOf 24 = .ok (.iconst 1, 1) := by decide +kernel
theorem dX11_sizeOf_25 : decode cX11_sizeOf 25 = .ok (.goto 4, 3) := by decide +kernel
theorem dX11_sizeOf_28 : decode cX11_sizeOf 28 = .ok (.iconst 0, 1) := by decide +kernel
theorem dX11_sizeOf_29 : decode cX11_sizeOf 29 = .ok (.iadd, 1) := by decide +kernel
theorem dX11_sizeOf_30 : decode cX11_sizeOf 30 = .ok (.istore_n 2, 1) := by decide +kernel
theorem dX11_sizeOf_31 : decode cX11_sizeOf 31 = .ok (.iinc 3 1, 3) := by decide +kernel
theorem dX11_sizeOf_34 : decode cX11_sizeOf 34 = .ok (.goto (-30), 3) := by decide +kernel
theorem dX11_sizeOf_37 : decode cX11_sizeOf 37 = .ok (.iload_n 2, 1) := by decide +kernel
theorem dX11_sizeOf_38 : decode cX11_sizeOf 38 = .ok (.ireturn, 1) := by decide +kernel
set_option maxRecDepth 20000 in
theorem ggX11_pieces_X11_ownerOf : GoodIn wsX11_pieces wsX11_ownerOf := goodIn_r _ [6, 1, 7, 8, 9, 10, 11, 12, 13, 14, 15, 16, 17, 18, 19, 20, 21, 22, 23, 24, 25, 26] (by decide +kernel) (by decide +kernel)
set_option maxRecDepth 20000 in
theorem gX11_pieces_X11_ownerOf : GoodIn wsX11_pieces (wsV RX11 113 RX11 yX11_ownerOf wsX11_ownerOf) := goodIn_app (goodIn_of _ (by decide +kernel)) ggX11_pieces_X11_ownerOf
theorem dX11_pieces_0 : decode cX11_pieces 0 = .ok (.iconst 0, 1) := by decide +kernel
theorem dX11_pieces_1 : decode cX11_pieces 1 = .ok (.istore_n 2, 1) := by decide +kernel
theorem dX11_pieces_2 : decode cX11_pieces 2 = .ok (.iconst 0, 1) := by decide +kernel
theorem dX11_pieces_3 : decode cX11_pieces 3 = .ok (.istore_n 3, 1) := by decide +kernel
theorem dX11_pieces_4 : decode cX11_pieces 4 = .ok (.iload_n 3, 1) := by decide +kernel
theorem dX11_pieces_5 : decode cX11_pieces 5 = .ok (.aload_n 0, 1) := by decide +kernel
theorem dX11_pieces_6 : decode cX11_pieces 6 = .ok (.getfield 13, 3) := by decide +kernel
theorem dX11_pieces_9 : decode cX11_pieces 9 = .ok (.iconst 0, 1) := by decide +kernel
theorem dX11_pieces_10 : decode cX11_pieces 10 = .ok (.iaload, 1) := by decide +kernel
theorem dX11_pieces_11 : decode cX11_pieces 11 = .ok (.if_icmp .ge 41, 3) := by decide +kernel
theorem dX11_pieces_14 : decode cX11_pieces 14 = .ok (.iload_n 2, 1) := by decide +kernel
theorem dX11_pieces_15 : decode cX11_pieces 15 = .ok (.aload_n 0, 1) := by decide +kernel
theorem dX11_pieces_16 : decode cX11_pieces 16 = .ok (.iload_n 3, 1) := by decide +kernel
theorem dX11_pieces_17 : decode cX11_pieces 17 = .ok (.invokevirtual 113, 3) := by decide +kernel
theorem dX11_pieces_20 : decode cX11_pieces 20 = .ok (.iload_n 1, 1) := by decide +kernel
theorem dX11_pieces_21 : decode cX11_pieces 21 = .ok (.if_icmp .ne 22, 3) := by decide +kernel
theorem dX11_pieces_24 : decode cX11_pieces 24 = .ok (.iload_n 3, 1) := by decide +kernel
theorem dX11_pieces_25 : decode cX11_pieces 25 = .ok (.ifCond .eq 14, 3) := by decide +kernel
theorem dX11_pieces_28 : decode cX11_pieces 28 = .ok (.aload_n 0, 1) := by decide +kernel
theorem dX11_pieces_29 : decode cX11_pieces 29 = .ok (.iload_n 3, 1) := by decide +kernel
theorem dX11_pieces_30 : decode cX11_pieces 30 = .ok (.iconst 1, 1) := by decide +kernel
theorem dX11_pieces_31 : decode cX11_pieces 31 = .ok (.isub, 1) := by decide +kernel
theorem dX11_pieces_32 : decode cX11_pieces 32 = .ok (.invokevirtual 113, 3) := by decide +kernel
theorem dX11_pieces_35 : decode cX11_pieces 35 = .ok (.iload_n 1, 1) := by decide +kernel
theorem dX11_pieces_36 : decode cX11_pieces 36 = .ok (.if_icmp .eq 7, 3) := by decide +kernel
theorem dX11_pieces_39 : decode cX11_pieces 39 = .ok (.iconst 1, 1) := by decide +kernel
theorem dX11_pieces_40 : decode cX11_pieces 40 = .ok (.goto 4, 3) := by decide +kernel
theorem dX11_pieces_43 : decode cX11_pieces 43 = .ok (.iconst 0, 1) := by decide +kernel
theorem dX11_pieces_44 : decode cX11_pieces 44 = .ok (.iadd, 1) := by decide +kernel
theorem dX11_pieces_45 : decode cX11_pieces 45 = .ok (.istore_n 2, 1) := by decide +kernel
theorem dX11_pieces_46 : decode cX11_pieces 46 = .ok (.iinc 3 1, 3) := by decide +kernel
theorem dX11_pieces_49 : decode cX11_pieces 49 = .ok (.goto (-45), 3) := by decide +kernel
theorem dX11_pieces_52 : decode cX11_pieces 52 = .ok (.iload_n 2, 1) := by decide +kernel
theorem dX11_pieces_53 : decode cX11_pieces 53 = .ok (.ireturn, 1) := by decide +kernel
set_option maxRecDepth 20000 in
theorem ggX11_markOf_X11_worthOf : GoodIn wsX11_markOf wsX11_worthOf := goodIn_r _ [6, 7, 8, 9, 5, 10, 1, 11, 12, 13, 14, 15, 16, 17, 18, 19, 20, 21, 22, 23, 24, 25, 26, 27, 28, 29, 30] (by decide +kernel) (by decide +kernel)
set_option maxRecDepth 20000 in
theorem gX11_markOf_X11_worthOf : GoodIn wsX11_markOf (wsV RX11 109 RX11 yX11_worthOf wsX11_worthOf) := goodIn_app (goodIn_of _ (by decide +kernel)) ggX11_markOf_X11_worthOf
set_option maxRecDepth 20000 in
theorem ggX11_markOf_X11_valueOf : GoodIn wsX11_markOf wsX11_valueOf := goodIn_r _ [10, 1, 11, 12, 13, 14, 15, 16, 17, 18, 19, 20, 21, 22, 23, 24, 25, 26, 27, 28, 29, 30] (by decide +kernel) (by decide +kernel)
set_option maxRecDepth 20000 in
theorem gX11_markOf_X11_valueOf : GoodIn wsX11_markOf (wsV RX11 105 RX11 yX11_valueOf wsX11_valueOf) := goodIn_app (goodIn_of _ (by decide +kernel)) ggX11_markOf_X11_valueOf
theorem dX11_markOf_0 : decode cX11_markOf 0 = .ok (.aload_n 0, 1) := by decide +kernel
theorem dX11_markOf_1 : decode cX11_markOf 1 = .ok (.iload_n 1, 1) := by decide +kernel
theorem dX11_markOf_2 : decode cX11_markOf 2 = .ok (.iload_n 2, 1) := by decide +kernel
theorem dX11_markOf_3 : decode cX11_markOf 3 = .ok (.aload_n 0, 1) := by decide +kernel
theorem dX11_markOf_4 : decode cX11_markOf 4 = .ok (.getfield 13, 3) := by decide +kernel
theorem dX11_markOf_7 : decode cX11_markOf 7 = .ok (.iconst 0, 1) := by decide +kernel
theorem dX11_markOf_8 : decode cX11_markOf 8 = .ok (.iaload, 1) := by decide +kernel
theorem dX11_markOf_9 : decode cX11_markOf 9 = .ok (.iconst 1, 1) := by decide +kernel
theorem dX11_markOf_10 : decode cX11_markOf 10 = .ok (.isub, 1) := by decide +kernel
theorem dX11_markOf_11 : decode cX11_markOf 11 = .ok (.invokevirtual 109, 3) := by decide +kernel
theorem dX11_markOf_14 : decode cX11_markOf 14 = .ok (.istore 4, 2) := by decide +kernel
theorem dX11_markOf_16 : decode cX11_markOf 16 = .ok (.iload_n 2, 1) := by decide +kernel
theorem dX11_markOf_17 : decode cX11_markOf 17 = .ok (.istore 5, 2) := by decide +kernel
theorem dX11_markOf_19 : decode cX11_markOf 19 = .ok (.aload_n 0, 1) := by decide +kernel
theorem dX11_markOf_20 : decode cX11_markOf 20 = .ok (.iload_n 1, 1) := by decide +kernel
theorem dX11_markOf_21 : decode cX11_markOf 21 = .ok (.iload_n 2, 1) := by decide +kernel
theorem dX11_markOf_22 : decode cX11_markOf 22 = .ok (.invokevirtual 105, 3) := by decide +kernel
theorem dX11_markOf_25 : decode cX11_markOf 25 = .ok (.istore 6, 2) := by decide +kernel
theorem dX11_markOf_27 : decode cX11_markOf 27 = .ok (.iload 6, 2) := by decide +kernel
theorem dX11_markOf_29 : decode cX11_markOf 29 = .ok (.iload_n 3, 1) := by decide +kernel
theorem dX11_markOf_30 : decode cX11_markOf 30 = .ok (.imul, 1) := by decide +kernel
theorem dX11_markOf_31 : decode cX11_markOf 31 = .ok (.iload 4, 2) := by decide +kernel
theorem dX11_markOf_33 : decode cX11_markOf 33 = .ok (.if_icmp .ge 21, 3) := by decide +kernel
theorem dX11_markOf_36 : decode cX11_markOf 36 = .ok (.iinc 5 1, 3) := by decide +kernel
theorem dX11_markOf_39 : decode cX11_markOf 39 = .ok (.iload 6, 2) := by decide +kernel
theorem dX11_markOf_41 : decode cX11_markOf 41 = .ok (.aload_n 0, 1) := by decide +kernel
theorem dX11_markOf_42 : decode cX11_markOf 42 = .ok (.iload_n 1, 1) := by decide +kernel
theorem dX11_markOf_43 : decode cX11_markOf 43 = .ok (.iload 5, 2) := by decide +kernel
theorem dX11_markOf_45 : decode cX11_markOf 45 = .ok (.invokevirtual 105, 3) := by decide +kernel
theorem dX11_markOf_48 : decode cX11_markOf 48 = .ok (.iadd, 1) := by decide +kernel
theorem dX11_markOf_49 : decode cX11_markOf 49 = .ok (.istore 6, 2) := by decide +kernel
theorem dX11_markOf_51 : decode cX11_markOf 51 = .ok (.goto (-24), 3) := by decide +kernel
theorem dX11_markOf_54 : decode cX11_markOf 54 = .ok (.iload 5, 2) := by decide +kernel
theorem dX11_markOf_56 : decode cX11_markOf 56 = .ok (.ireturn, 1) := by decide +kernel
set_option maxRecDepth 20000 in
theorem ggX11_favourite_X11_ownerOf : GoodIn wsX11_favourite wsX11_ownerOf := goodIn_r _ [6, 1, 11, 12, 13, 14, 15, 16, 17, 18, 19, 20, 21, 22, 23, 24, 25, 26, 27, 28, 29, 30] (by decide +kernel) (by decide +kernel)
set_option maxRecDepth 20000 in
theorem gX11_favourite_X11_ownerOf : GoodIn wsX11_favourite (wsV RX11 113 RX11 yX11_ownerOf wsX11_ownerOf) := goodIn_app (goodIn_of _ (by decide +kernel)) ggX11_favourite_X11_ownerOf
set_option maxRecDepth 20000 in
theorem ggX11_favourite_X11_valueOf : GoodIn wsX11_favourite wsX11_valueOf := goodIn_r _ [10, 1, 11, 12, 13, 14, 15, 16, 17, 18, 19, 20, 21, 22, 23, 24, 25, 26, 27, 28, 29, 30] (by decide +kernel) (by decide +kernel)
set_option maxRecDepth 20000 in
theorem gX11_favourite_X11_valueOf : GoodIn wsX11_favourite (wsV RX11 105 RX11 yX11_valueOf wsX11_valueOf) := goodIn_app (goodIn_of _ (by decide +kernel)) ggX11_favourite_X11_valueOf
theorem dX11_favourite_0 : decode cX11_favourite 0 = .ok (.iconst (-1), 1) := by decide +kernel
theorem dX11_favourite_1 : decode cX11_favourite 1 = .ok (.istore_n 2, 1) := by decide +kernel
theorem dX11_favourite_2 : decode cX11_favourite 2 = .ok (.iconst 0, 1) := by decide +kernel
theorem dX11_favourite_3 : decode cX11_favourite 3 = .ok (.istore_n 3, 1) := by decide +kernel
theorem dX11_favourite_4 : decode cX11_favourite 4 = .ok (.iload_n 3, 1) := by decide +kernel
theorem dX11_favourite_5 : decode cX11_favourite 5 = .ok (.aload_n 0, 1) := by decide +kernel
theorem dX11_favourite_6 : decode cX11_favourite 6 = .ok (.getfield 13, 3) := by decide +kernel
theorem dX11_favourite_9 : decode cX11_favourite 9 = .ok (.iconst 0, 1) := by decide +kernel
theorem dX11_favourite_10 : decode cX11_favourite 10 = .ok (.iaload, 1) := by decide +kernel
theorem dX11_favourite_11 : decode cX11_favourite 11 = .ok (.if_icmp .ge 40, 3) := by decide +kernel
theorem dX11_favourite_14 : decode cX11_favourite 14 = .ok (.aload_n 0, 1) := by decide +kernel
theorem dX11_favourite_15 : decode cX11_favourite 15 = .ok (.iload_n 3, 1) := by decide +kernel
theorem dX11_favourite_16 : decode cX11_favourite 16 = .ok (.invokevirtual 113, 3) := by decide +kernel
theorem dX11_favourite_19 : decode cX11_favourite 19 = .ok (.iconst (-1), 1) := by decide +kernel
theorem dX11_favourite_20 : decode cX11_favourite 20 = .ok (.if_icmp .ne 25, 3) := by decide +kernel
theorem dX11_favourite_23 : decode cX11_favourite 23 = .ok (.iload_n 2, 1) := by decide +kernel
theorem dX11_favourite_24 : decode cX11_favourite 24 = .ok (.iconst (-1), 1) := by decide +kernel
theorem dX11_favourite_25 : decode cX11_favourite 25 = .ok (.if_icmp .eq 18, 3) := by decide +kernel
theorem dX11_favourite_28 : decode cX11_favourite 28 = .ok (.aload_n 0, 1) := by decide +kernel
theorem dX11_favourite_29 : decode cX11_favourite 29 = .ok (.iload_n 1, 1) := by decide +kernel
theorem dX11_favourite_30 : decode cX11_favourite 30 = .ok (.iload_n 3, 1) := by decide +kernel
theorem dX11_favourite_31 : decode cX11_favourite 31 = .ok (.invokevirtual 105, 3) := by decide +kernel
theorem dX11_favourite_34 : decode cX11_favourite 34 = .ok (.aload_n 0, 1) := by decide +kernel
theorem dX11_favourite_35 : decode cX11_favourite 35 = .ok (.iload_n 1, 1) := by decide +kernel
theorem dX11_favourite_36 : decode cX11_favourite 36 = .ok (.iload_n 2, 1) := by decide +kernel
theorem dX11_favourite_37 : decode cX11_favourite 37 = .ok (.invokevirtual 105, 3) := by decide +kernel
theorem dX11_favourite_40 : decode cX11_favourite 40 = .ok (.if_icmp .le 5, 3) := by decide +kernel
theorem dX11_favourite_43 : decode cX11_favourite 43 = .ok (.iload_n 3, 1) := by decide +kernel
theorem dX11_favourite_44 : decode cX11_favourite 44 = .ok (.istore_n 2, 1) := by decide +kernel
theorem dX11_favourite_45 : decode cX11_favourite 45 = .ok (.iinc 3 1, 3) := by decide +kernel
theorem dX11_favourite_48 : decode cX11_favourite 48 = .ok (.goto (-44), 3) := by decide +kernel
theorem dX11_favourite_51 : decode cX11_favourite 51 = .ok (.iload_n 2, 1) := by decide +kernel
theorem dX11_favourite_52 : decode cX11_favourite 52 = .ok (.ireturn, 1) := by decide +kernel
set_option maxRecDepth 20000 in
theorem ggX11_hasEnvy_X11_worthShare : GoodIn wsX11_hasEnvy wsX11_worthShare := goodIn_r _ [5, 6, 7, 8, 9, 4, 10, 11, 12, 13, 14, 19, 20, 21, 22, 23, 24, 25, 26, 27, 28, 29, 30, 31, 32, 33, 34, 35, 36, 37, 38] (by decide +kernel) (by decide +kernel)
set_option maxRecDepth 20000 in
theorem gX11_hasEnvy_X11_worthShare : GoodIn wsX11_hasEnvy (wsV RX11 117 RX11 yX11_worthShare wsX11_worthShare) := goodIn_app (goodIn_of _ (by decide +kernel)) ggX11_hasEnvy_X11_worthShare
set_option maxRecDepth 20000 in
theorem ggX11_hasEnvy_X11_welfareOf : GoodIn wsX11_hasEnvy wsX11_welfareOf := goodIn_r _ [18, 1, 2, 3, 4, 5, 6, 7, 8, 9, 10, 11, 12, 13, 14, 19, 20, 21, 22, 23, 24, 25, 26, 27, 28, 29, 30, 31, 32, 33, 34, 35, 36, 37, 38] (by decide +kernel) (by decide +kernel)
set_option maxRecDepth 20000 in
theorem gX11_hasEnvy_X11_welfareOf : GoodIn wsX11_hasEnvy (wsV RX11 120 RX11 yX11_welfareOf wsX11_welfareOf) := goodIn_app (goodIn_of _ (by decide +kernel)) ggX11_hasEnvy_X11_welfareOf
theorem dX11_hasEnvy_0 : decode cX11_hasEnvy 0 = .ok (.aload_n 0, 1) := by decide +kernel
theorem dX11_hasEnvy_1 : decode cX11_hasEnvy 1 = .ok (.iload_n 1, 1) := by decide +kernel
theorem dX11_hasEnvy_2 : decode cX11_hasEnvy 2 = .ok (.iload_n 2, 1) := by decide +kernel
theorem dX11_hasEnvy_3 : decode cX11_hasEnvy 3 = .ok (.invokevirtual 117, 3) := by decide +kernel
theorem dX11_hasEnvy_6 : decode cX11_hasEnvy 6 = .ok (.aload_n 0, 1) := by decide +kernel
theorem dX11_hasEnvy_7 : decode cX11_hasEnvy 7 = .ok (.iload_n 1, 1) := by decide +kernel
theorem dX11_hasEnvy_8 : decode cX11_hasEnvy 8 = .ok (.invokevirtual 120, 3) := by decide +kernel
theorem dX11_hasEnvy_11 : decode cX11_hasEnvy 11 = .ok (.if_icmp .le 7, 3) := by decide +kernel
theorem dX11_hasEnvy_14 : decode cX11_hasEnvy 14 = .ok (.iconst 1, 1) := by decide +kernel
theorem dX11_hasEnvy_15 : decode cX11_hasEnvy 15 = .ok (.goto 4, 3) := by decide +kernel
theorem dX11_hasEnvy_18 : decode cX11_hasEnvy 18 = .ok (.iconst 0, 1) := by decide +kernel
theorem dX11_hasEnvy_19 : decode cX11_hasEnvy 19 = .ok (.ireturn, 1) := by decide +kernel
set_option maxRecDepth 20000 in
theorem ggX11_hasMildEnvy_X11_ownerOf : GoodIn wsX11_hasMildEnvy wsX11_ownerOf := goodIn_r _ [6, 1, 19, 20, 21, 22, 23, 24, 25, 26, 27, 28, 29, 30, 31, 32, 33, 34, 35, 36, 37, 38] (by decide +kernel) (by decide +kernel)
set_option maxRecDepth 20000 in
theorem gX11_hasMildEnvy_X11_ownerOf : GoodIn wsX11_hasMildEnvy (wsV RX11 113 RX11 yX11_ownerOf wsX11_ownerOf) := goodIn_app (goodIn_of _ (by decide +kernel)) ggX11_hasMildEnvy_X11_ownerOf
set_option maxRecDepth 20000 in
theorem ggX11_hasMildEnvy_X11_valueOf : GoodIn wsX11_hasMildEnvy wsX11_valueOf := goodIn_r _ [10, 1, 19, 20, 21, 22, 23, 24, 25, 26, 27, 28, 29, 30, 31, 32, 33, 34, 35, 36, 37, 38] (by decide +kernel) (by decide +kernel)
set_option maxRecDepth 20000 in
theorem gX11_hasMildEnvy_X11_valueOf : GoodIn wsX11_hasMildEnvy (wsV RX11 105 RX11 yX11_valueOf wsX11_valueOf) := goodIn_app (goodIn_of _ (by decide +kernel)) ggX11_hasMildEnvy_X11_valueOf
set_option maxRecDepth 20000 in
theorem ggX11_hasMildEnvy_X11_worthShare : GoodIn wsX11_hasMildEnvy wsX11_worthShare := goodIn_r _ [14, 1, 2, 3, 4, 5, 6, 7, 8, 9, 10, 19, 20, 21, 22, 23, 24, 25, 26, 27, 28, 29, 30, 31, 32, 33, 34, 35, 36, 37, 38] (by decide +kernel) (by decide +kernel)
set_option maxRecDepth 20000 in
theorem gX11_hasMildEnvy_X11_worthShare : GoodIn wsX11_hasMildEnvy (wsV RX11 117 RX11 yX11_worthShare wsX11_worthShare) := goodIn_app (goodIn_of _ (by decide +kernel)) ggX11_hasMildEnvy_X11_worthShare
set_option maxRecDepth 20000 in
theorem ggX11_hasMildEnvy_X11_welfareOf : GoodIn wsX11_hasMildEnvy wsX11_welfareOf := goodIn_r _ [18, 11, 12, 13, 5, 14, 1, 2, 3, 4, 6, 7, 8, 9, 10, 19, 20, 21, 22, 23, 24, 25, 26, 27, 28, 29, 30, 31, 32, 33, 34, 35, 36, 37, 38] (by decide +kernel) (by decide +kernel)
set_option maxRecDepth 20000 in
theorem gX11_hasMildEnvy_X11_welfareOf : GoodIn wsX11_hasMildEnvy (wsV RX11 120 RX11 yX11_welfareOf wsX11_welfareOf) := goodIn_app (goodIn_of _ (by decide +kernel)) ggX11_hasMildEnvy_X11_welfareOf
theorem dX11_hasMildEnvy_0 : decode cX11_hasMildEnvy 0 = .ok (.iconst 0, 1) := by decide +kernel
theorem dX11_hasMildEnvy_1 : decode cX11_hasMildEnvy 1 = .ok (.istore_n 3, 1) := by decide +kernel
theorem dX11_hasMildEnvy_2 : decode cX11_hasMildEnvy 2 = .ok (.iconst 0, 1) := by decide +kernel
theorem dX11_hasMildEnvy_3 : decode cX11_hasMildEnvy 3 = .ok (.istore 4, 2) := by decide +kernel
theorem dX11_hasMildEnvy_5 : decode cX11_hasMildEnvy 5 = .ok (.iload 4, 2) := by decide +kernel
theorem dX11_hasMildEnvy_7 : decode cX11_hasMildEnvy 7 = .ok (.aload_n 0, 1) := by decide +kernel
theorem dX11_hasMildEnvy_8 : decode cX11_hasMildEnvy 8 = .ok (.getfield 13, 3) := by decide +kernel
theorem dX11_hasMildEnvy_11 : decode cX11_hasMildEnvy 11 = .ok (.iconst 0, 1) := by decide +kernel
theorem dX11_hasMildEnvy_12 : decode cX11_hasMildEnvy 12 = .ok (.iaload, 1) := by decide +kernel
theorem dX11_hasMildEnvy_13 : decode cX11_hasMildEnvy 13 = .ok (.if_icmp .ge 38, 3) := by decide +kernel
theorem dX11_hasMildEnvy_16 : decode cX11_hasMildEnvy 16 = .ok (.aload_n 0, 1) := by decide +kernel
theorem dX11_hasMildEnvy_17 : decode cX11_hasMildEnvy 17 = .ok (.iload 4, 2) := by decide +kernel
theorem dX11_hasMildEnvy_19 : decode cX11_hasMildEnvy 19 = .ok (.invokevirtual 113, 3) := by decide +kernel
theorem dX11_hasMildEnvy_22 : decode cX11_hasMildEnvy 22 = .ok (.iload_n 2, 1) := by decide +kernel
theorem dX11_hasMildEnvy_23 : decode cX11_hasMildEnvy 23 = .ok (.if_icmp .ne 22, 3) := by decide +kernel
theorem dX11_hasMildEnvy_26 : decode cX11_hasMildEnvy 26 = .ok (.aload_n 0, 1) := by decide +kernel
theorem dX11_hasMildEnvy_27 : decode cX11_hasMildEnvy 27 = .ok (.iload_n 1, 1) := by decide +kernel
theorem dX11_hasMildEnvy_28 : decode cX11_hasMildEnvy 28 = .ok (.iload 4, 2) := by decide +kernel
theorem dX11_hasMildEnvy_30 : decode cX11_hasMildEnvy 30 = .ok (.invokevirtual 105, 3) := by decide +kernel
theorem dX11_hasMildEnvy_33 : decode cX11_hasMildEnvy 33 = .ok (.iload_n 3, 1) := by decide +kernel
theorem dX11_hasMildEnvy_34 : decode cX11_hasMildEnvy 34 = .ok (.if_icmp .le 11, 3) := by decide +kernel
theorem dX11_hasMildEnvy_37 : decode cX11_hasMildEnvy 37 = .ok (.aload_n 0, 1) := by decide +kernel
theorem dX11_hasMildEnvy_38 : decode cX11_hasMildEnvy 38 = .ok (.iload_n 1, 1) := by decide +kernel
theorem dX11_hasMildEnvy_39 : decode cX11_hasMildEnvy 39 = .ok (.iload 4, 2) := by decide +kernel
theorem dX11_hasMildEnvy_41 : decode cX11_hasMildEnvy 41 = .ok (.invokevirtual 105, 3) := by decide +kernel
theorem dX11_hasMildEnvy_44 : decode cX11_hasMildEnvy 44 = .ok (.istore_n 3, 1) := by decide +kernel
theorem dX11_hasMildEnvy_45 : decode cX11_hasMildEnvy 45 = .ok (.iinc 4 1, 3) := by decide +kernel
theorem dX11_hasMildEnvy_48 : decode cX11_hasMildEnvy 48 = .ok (.goto (-43), 3) := by decide +kernel
theorem dX11_hasMildEnvy_51 : decode cX11_hasMildEnvy 51 = .ok (.aload_n 0, 1) := by decide +kernel
theorem dX11_hasMildEnvy_52 : decode cX11_hasMildEnvy 52 = .ok (.iload_n 1, 1) := by decide +kernel
theorem dX11_hasMildEnvy_53 : decode cX11_hasMildEnvy 53 = .ok (.iload_n 2, 1) := by decide +kernel
theorem dX11_hasMildEnvy_54 : decode cX11_hasMildEnvy 54 = .ok (.invokevirtual 117, 3) := by decide +kernel
theorem dX11_hasMildEnvy_57 : decode cX11_hasMildEnvy 57 = .ok (.iload_n 3, 1) := by decide +kernel
theorem dX11_hasMildEnvy_58 : decode cX11_hasMildEnvy 58 = .ok (.isub, 1) := by decide +kernel
theorem dX11_hasMildEnvy_59 : decode cX11_hasMildEnvy 59 = .ok (.aload_n 0, 1) := by decide +kernel
theorem dX11_hasMildEnvy_60 : decode cX11_hasMildEnvy 60 = .ok (.iload_n 1, 1) := by decide +kernel
theorem dX11_hasMildEnvy_61 : decode cX11_hasMildEnvy 61 = .ok (.invokevirtual 120, 3) := by decide +kernel
theorem dX11_hasMildEnvy_64 : decode cX11_hasMildEnvy 64 = .ok (.if_icmp .gt 7, 3) := by decide +kernel
theorem dX11_hasMildEnvy_67 : decode cX11_hasMildEnvy 67 = .ok (.iconst 1, 1) := by decide +kernel
theorem dX11_hasMildEnvy_68 : decode cX11_hasMildEnvy 68 = .ok (.goto 4, 3) := by decide +kernel
theorem dX11_hasMildEnvy_71 : decode cX11_hasMildEnvy 71 = .ok (.iconst 0, 1) := by decide +kernel
theorem dX11_hasMildEnvy_72 : decode cX11_hasMildEnvy 72 = .ok (.ireturn, 1) := by decide +kernel
set_option maxRecDepth 20000 in
theorem ggX11_isContent_X11_welfareOf : GoodIn wsX11_isContent wsX11_welfareOf := goodIn_r _ [6, 7, 8, 9, 5, 10, 1, 11, 12, 13, 14, 15, 16, 17, 18, 27, 28, 29, 30, 31, 32, 33, 34, 35, 36, 37, 38, 39, 40, 41, 42, 43, 44, 45, 46] (by decide +kernel) (by decide +kernel)
set_option maxRecDepth 20000 in
theorem gX11_isContent_X11_welfareOf : GoodIn wsX11_isContent (wsV RX11 120 RX11 yX11_welfareOf wsX11_welfareOf) := goodIn_app (goodIn_of _ (by decide +kernel)) ggX11_isContent_X11_welfareOf
set_option maxRecDepth 20000 in
theorem ggX11_isContent_X11_totalOf : GoodIn wsX11_isContent wsX11_totalOf := goodIn_r _ [22, 1, 23, 24, 25, 5, 26, 15, 16, 17, 18, 27, 28, 29, 30, 31, 32, 33, 34, 35, 36, 37, 38, 39, 40, 41, 42, 43, 44, 45, 46] (by decide +kernel) (by decide +kernel)
set_option maxRecDepth 20000 in
theorem gX11_isContent_X11_totalOf : GoodIn wsX11_isContent (wsV RX11 123 RX11 yX11_totalOf wsX11_totalOf) := goodIn_app (goodIn_of _ (by decide +kernel)) ggX11_isContent_X11_totalOf
theorem dX11_isContent_0 : decode cX11_isContent 0 = .ok (.aload_n 0, 1) := by decide +kernel
theorem dX11_isContent_1 : decode cX11_isContent 1 = .ok (.iload_n 1, 1) := by decide +kernel
theorem dX11_isContent_2 : decode cX11_isContent 2 = .ok (.invokevirtual 120, 3) := by decide +kernel
theorem dX11_isContent_5 : decode cX11_isContent 5 = .ok (.aload_n 0, 1) := by decide +kernel
theorem dX11_isContent_6 : decode cX11_isContent 6 = .ok (.getfield 13, 3) := by decide +kernel
theorem dX11_isContent_9 : decode cX11_isContent 9 = .ok (.iconst 1, 1) := by decide +kernel
theorem dX11_isContent_10 : decode cX11_isContent 10 = .ok (.iaload, 1) := by decide +kernel
theorem dX11_isContent_11 : decode cX11_isContent 11 = .ok (.imul, 1) := by decide +kernel
theorem dX11_isContent_12 : decode cX11_isContent 12 = .ok (.aload_n 0, 1) := by decide +kernel
theorem dX11_isContent_13 : decode cX11_isContent 13 = .ok (.iload_n 1, 1) := by decide +kernel
theorem dX11_isContent_14 : decode cX11_isContent 14 = .ok (.invokevirtual 123, 3) := by decide +kernel
theorem dX11_isContent_17 : decode cX11_isContent 17 = .ok (.if_icmp .lt 7, 3) := by decide +kernel
theorem dX11_isContent_20 : decode cX11_isContent 20 = .ok (.iconst 1, 1) := by decide +kernel
theorem dX11_isContent_21 : decode cX11_isContent 21 = .ok (.goto 4, 3) := by decide +kernel
theorem dX11_isContent_24 : decode cX11_isContent 24 = .ok (.iconst 0, 1) := by decide +kernel
theorem dX11_isContent_25 : decode cX11_isContent 25 = .ok (.ireturn, 1) := by decide +kernel
set_option maxRecDepth 20000 in
theorem ggX11_contentCount_X11_isContent : GoodIn wsX11_contentCount wsX11_isContent := goodIn_r _ [6, 1, 7, 8, 9, 5, 10, 11, 12, 13, 14, 15, 16, 17, 18, 19, 20, 21, 22, 23, 24, 25, 26, 27, 28, 29, 30, 31, 32, 33, 34, 35, 36, 37, 38, 39, 40, 41, 42, 43, 44, 45, 46, 47, 48, 49, 50] (by decide +kernel) (by decide +kernel)
set_option maxRecDepth 20000 in
theorem gX11_contentCount_X11_isContent : GoodIn wsX11_contentCount (wsV RX11 126 RX11 yX11_isContent wsX11_isContent) := goodIn_app (goodIn_of _ (by decide +kernel)) ggX11_contentCount_X11_isContent
theorem dX11_contentCount_0 : decode cX11_contentCount 0 = .ok (.iconst 0, 1) := by decide +kernel
theorem dX11_contentCount_1 : decode cX11_contentCount 1 = .ok (.istore_n 1, 1) := by decide +kernel
theorem dX11_contentCount_2 : decode cX11_contentCount 2 = .ok (.iconst 0, 1) := by decide +kernel
theorem dX11_contentCount_3 : decode cX11_contentCount 3 = .ok (.istore_n 2, 1) := by decide +kernel
theorem dX11_contentCount_4 : decode cX11_contentCount 4 = .ok (.iload_n 2, 1) := by decide +kernel
theorem dX11_contentCount_5 : decode cX11_contentCount 5 = .ok (.aload_n 0, 1) := by decide +kernel
theorem dX11_contentCount_6 : decode cX11_contentCount 6 = .ok (.getfield 13, 3) := by decide +kernel
theorem dX11_contentCount_9 : decode cX11_contentCount 9 = .ok (.iconst 1, 1) := by decide +kernel
theorem dX11_contentCount_10 : decode cX11_contentCount 10 = .ok (.iaload, 1) := by decide +kernel
theorem dX11_contentCount_11 : decode cX11_contentCount 11 = .ok (.if_icmp .ge 25, 3) := by decide +kernel
theorem dX11_contentCount_14 : decode cX11_contentCount 14 = .ok (.iload_n 1, 1) := by decide +kernel
theorem dX11_contentCount_15 : decode cX11_contentCount 15 = .ok (.aload_n 0, 1) := by decide +kernel
theorem dX11_contentCount_16 : decode cX11_contentCount 16 = .ok (.iload_n 2, 1) := by decide +kernel
theorem dX11_contentCount_17 : decode cX11_contentCount 17 = .ok (.invokevirtual 126, 3) := by decide +kernel
theorem dX11_contentCount_20 : decode cX11_contentCount 20 = .ok (.ifCond .eq 7, 3) := by decide +kernel
theorem dX11_contentCount_23 : decode cX11_contentCount 23 = .ok (.iconst 1, 1) := by decide +kernel
theorem dX11_contentCount_24 : decode cX11_contentCount 24 = .ok (.goto 4, 3) := by decide +kernel
theorem dX11_contentCount_27 : decode cX11_contentCount 27 = .ok (.iconst 0, 1) := by decide +kernel
theorem dX11_contentCount_28 : decode cX11_contentCount 28 = .ok (.iadd, 1) := by decide +kernel
theorem dX11_contentCount_29 : decode cX11_contentCount 29 = .ok (.istore_n 1, 1) := by decide +kernel
theorem dX11_contentCount_30 : decode cX11_contentCount 30 = .ok (.iinc 2 1, 3) := by decide +kernel
theorem dX11_contentCount_33 : decode cX11_contentCount 33 = .ok (.goto (-29), 3) := by decide +kernel
theorem dX11_contentCount_36 : decode cX11_contentCount 36 = .ok (.iload_n 1, 1) := by decide +kernel
theorem dX11_contentCount_37 : decode cX11_contentCount 37 = .ok (.ireturn, 1) := by decide +kernel
set_option maxRecDepth 20000 in
theorem ggX11_envyTotal_X11_hasEnvy : GoodIn wsX11_envyTotal wsX11_hasEnvy := goodIn_r _ [6, 7, 8, 9, 5, 10, 1, 11, 12, 13, 14, 15, 16, 17, 18, 19, 20, 21, 22, 23, 24, 25, 26, 27, 28, 29, 30, 31, 32, 33, 34, 35, 36, 37, 38, 39, 40, 41, 42] (by decide +kernel) (by decide +kernel)
set_option maxRecDepth 20000 in
theorem gX11_envyTotal_X11_hasEnvy : GoodIn wsX11_envyTotal (wsV RX11 129 RX11 yX11_hasEnvy wsX11_hasEnvy) := goodIn_app (goodIn_of _ (by decide +kernel)) ggX11_envyTotal_X11_hasEnvy
theorem dX11_envyTotal_0 : decode cX11_envyTotal 0 = .ok (.iconst 0, 1) := by decide +kernel
theorem dX11_envyTotal_1 : decode cX11_envyTotal 1 = .ok (.istore_n 1, 1) := by decide +kernel
theorem dX11_envyTotal_2 : decode cX11_envyTotal 2 = .ok (.iconst 0, 1) := by decide +kernel
theorem dX11_envyTotal_3 : decode cX11_envyTotal 3 = .ok (.istore_n 2, 1) := by decide +kernel
theorem dX11_envyTotal_4 : decode cX11_envyTotal 4 = .ok (.iload_n 2, 1) := by decide +kernel
theorem dX11_envyTotal_5 : decode cX11_envyTotal 5 = .ok (.aload_n 0, 1) := by decide +kernel
theorem dX11_envyTotal_6 : decode cX11_envyTotal 6 = .ok (.getfield 13, 3) := by decide +kernel
theorem dX11_envyTotal_9 : decode cX11_envyTotal 9 = .ok (.iconst 1, 1) := by decide +kernel
theorem dX11_envyTotal_10 : decode cX11_envyTotal 10 = .ok (.iaload, 1) := by decide +kernel
theorem dX11_envyTotal_11 : decode cX11_envyTotal 11 = .ok (.if_icmp .ge 44, 3) := by decide +kernel
theorem dX11_envyTotal_14 : decode cX11_envyTotal 14 = .ok (.iconst 0, 1) := by decide +kernel
theorem dX11_envyTotal_15 : decode cX11_envyTotal 15 = .ok (.istore_n 3, 1) := by decide +kernel
theorem dX11_envyTotal_16 : decode cX11_envyTotal 16 = .ok (.iload_n 3, 1) := by decide +kernel
theorem dX11_envyTotal_17 : decode cX11_envyTotal 17 = .ok (.aload_n 0, 1) := by decide +kernel
theorem dX11_envyTotal_18 : decode cX11_envyTotal 18 = .ok (.getfield 13, 3) := by decide +kernel
theorem dX11_envyTotal_21 : decode cX11_envyTotal 21 = .ok (.iconst 1, 1) := by decide +kernel
theorem dX11_envyTotal_22 : decode cX11_envyTotal 22 = .ok (.iaload, 1) := by decide +kernel
theorem dX11_envyTotal_23 : decode cX11_envyTotal 23 = .ok (.if_icmp .ge 26, 3) := by decide +kernel
theorem dX11_envyTotal_26 : decode cX11_envyTotal 26 = .ok (.iload_n 1, 1) := by decide +kernel
theorem dX11_envyTotal_27 : decode cX11_envyTotal 27 = .ok (.aload_n 0, 1) := by decide +kernel
theorem dX11_envyTotal_28 : decode cX11_envyTotal 28 = .ok (.iload_n 2, 1) := by decide +kernel
theorem dX11_envyTotal_29 : decode cX11_envyTotal 29 = .ok (.iload_n 3, 1) := by decide +kernel
theorem dX11_envyTotal_30 : decode cX11_envyTotal 30 = .ok (.invokevirtual 129, 3) := by decide +kernel
theorem dX11_envyTotal_33 : decode cX11_envyTotal 33 = .ok (.ifCond .eq 7, 3) := by decide +kernel
theorem dX11_envyTotal_36 : decode cX11_envyTotal 36 = .ok (.iconst 1, 1) := by decide +kernel
theorem dX11_envyTotal_37 : decode cX11_envyTotal 37 = .ok (.goto 4, 3) := by decide +kernel
theorem dX11_envyTotal_40 : decode cX11_envyTotal 40 = .ok (.iconst 0, 1) := by decide +kernel
theorem dX11_envyTotal_41 : decode cX11_envyTotal 41 = .ok (.iadd, 1) := by decide +kernel
theorem dX11_envyTotal_42 : decode cX11_envyTotal 42 = .ok (.istore_n 1, 1) := by decide +kernel
theorem dX11_envyTotal_43 : decode cX11_envyTotal 43 = .ok (.iinc 3 1, 3) := by decide +kernel
theorem dX11_envyTotal_46 : decode cX11_envyTotal 46 = .ok (.goto (-30), 3) := by decide +kernel
theorem dX11_envyTotal_49 : decode cX11_envyTotal 49 = .ok (.iinc 2 1, 3) := by decide +kernel
theorem dX11_envyTotal_52 : decode cX11_envyTotal 52 = .ok (.goto (-48), 3) := by decide +kernel
theorem dX11_envyTotal_55 : decode cX11_envyTotal 55 = .ok (.iload_n 1, 1) := by decide +kernel
theorem dX11_envyTotal_56 : decode cX11_envyTotal 56 = .ok (.ireturn, 1) := by decide +kernel
set_option maxRecDepth 20000 in
theorem ggX11_walkTo_X11_hasEnvy : GoodIn wsX11_walkTo wsX11_hasEnvy := goodIn_r _ [7, 8, 9, 10, 6, 11, 2, 12, 13, 14, 15, 16, 17, 18, 19, 20, 21, 22, 23, 24, 25, 26, 27, 28, 29, 30, 31, 32, 33, 34, 35, 36, 37, 38, 39, 40, 41, 42, 43] (by decide +kernel) (by decide +kernel)
set_option maxRecDepth 20000 in
theorem gX11_walkTo_X11_hasEnvy : GoodIn wsX11_walkTo (wsV RX11 129 RX11 yX11_hasEnvy wsX11_hasEnvy) := goodIn_app (goodIn_of _ (by decide +kernel)) ggX11_walkTo_X11_hasEnvy
theorem dX11_walkTo_0 : decode cX11_walkTo 0 = .ok (.iconst 0, 1) := by decide +kernel
theorem dX11_walkTo_1 : decode cX11_walkTo 1 = .ok (.istore_n 2, 1) := by decide +kernel
theorem dX11_walkTo_2 : decode cX11_walkTo 2 = .ok (.iload_n 2, 1) := by decide +kernel
theorem dX11_walkTo_3 : decode cX11_walkTo 3 = .ok (.bipush 6, 2) := by decide +kernel
theorem dX11_walkTo_5 : decode cX11_walkTo 5 = .ok (.if_icmp .ge 16, 3) := by decide +kernel
theorem dX11_walkTo_8 : decode cX11_walkTo 8 = .ok (.aload_n 0, 1) := by decide +kernel
theorem dX11_walkTo_9 : decode cX11_walkTo 9 = .ok (.getfield 42, 3) := by decide +kernel
theorem dX11_walkTo_12 : decode cX11_walkTo 12 = .ok (.iload_n 2, 1) := by decide +kernel
theorem dX11_walkTo_13 : decode cX11_walkTo 13 = .ok (.iconst (-1), 1) := by decide +kernel
theorem dX11_walkTo_14 : decode cX11_walkTo 14 = .ok (.iastore, 1) := by decide +kernel
theorem dX11_walkTo_15 : decode cX11_walkTo 15 = .ok (.iinc 2 1, 3) := by decide +kernel
theorem dX11_walkTo_18 : decode cX11_walkTo 18 = .ok (.goto (-16), 3) := by decide +kernel
theorem dX11_walkTo_21 : decode cX11_walkTo 21 = .ok (.iconst 1, 1) := by decide +kernel
theorem dX11_walkTo_22 : decode cX11_walkTo 22 = .ok (.istore_n 2, 1) := by decide +kernel
theorem dX11_walkTo_23 : decode cX11_walkTo 23 = .ok (.iload_n 2, 1) := by decide +kernel
theorem dX11_walkTo_24 : decode cX11_walkTo 24 = .ok (.aload_n 0, 1) := by decide +kernel
theorem dX11_walkTo_25 : decode cX11_walkTo 25 = .ok (.getfield 13, 3) := by decide +kernel
theorem dX11_walkTo_28 : decode cX11_walkTo 28 = .ok (.iconst 1, 1) := by decide +kernel
theorem dX11_walkTo_29 : decode cX11_walkTo 29 = .ok (.iaload, 1) := by decide +kernel
theorem dX11_walkTo_30 : decode cX11_walkTo 30 = .ok (.if_icmp .gt 124, 3) := by decide +kernel
theorem dX11_walkTo_33 : decode cX11_walkTo 33 = .ok (.iconst 0, 1) := by decide +kernel
theorem dX11_walkTo_34 : decode cX11_walkTo 34 = .ok (.istore_n 3, 1) := by decide +kernel
theorem dX11_walkTo_35 : decode cX11_walkTo 35 = .ok (.iload_n 3, 1) := by decide +kernel
theorem dX11_walkTo_36 : decode cX11_walkTo 36 = .ok (.aload_n 0, 1) := by decide +kernel
theorem dX11_walkTo_37 : decode cX11_walkTo 37 = .ok (.getfield 13, 3) := by decide +kernel
theorem dX11_walkTo_40 : decode cX11_walkTo 40 = .ok (.iconst 1, 1) := by decide +kernel
theorem dX11_walkTo_41 : decode cX11_walkTo 41 = .ok (.iaload, 1) := by decide +kernel
theorem dX11_walkTo_42 : decode cX11_walkTo 42 = .ok (.if_icmp .ge 106, 3) := by decide +kernel
theorem dX11_walkTo_45 : decode cX11_walkTo 45 = .ok (.iconst 0, 1) := by decide +kernel
theorem dX11_walkTo_46 : decode cX11_walkTo 46 = .ok (.istore 4, 2) := by decide +kernel
theorem dX11_walkTo_48 : decode cX11_walkTo 48 = .ok (.aload_n 0, 1) := by decide +kernel
theorem dX11_walkTo_49 : decode cX11_walkTo 49 = .ok (.getfield 42, 3) := by decide +kernel
theorem dX11_walkTo_52 : decode cX11_walkTo 52 = .ok (.iload_n 3, 1) := by decide +kernel
theorem dX11_walkTo_53 : decode cX11_walkTo 53 = .ok (.iaload, 1) := by decide +kernel
theorem dX11_walkTo_54 : decode cX11_walkTo 54 = .ok (.iconst (-1), 1) := by decide +kernel
theorem dX11_walkTo_55 : decode cX11_walkTo 55 = .ok (.if_icmp .ne 87, 3) := by decide +kernel
theorem dX11_walkTo_58 : decode cX11_walkTo 58 = .ok (.iload 4, 2) := by decide +kernel
theorem dX11_walkTo_60 : decode cX11_walkTo 60 = .ok (.aload_n 0, 1) := by decide +kernel
theorem dX11_walkTo_61 : decode cX11_walkTo 61 = .ok (.getfield 13, 3) := by decide +kernel
theorem dX11_walkTo_64 : decode cX11_walkTo 64 = .ok (.iconst 1, 1) := by decide +kernel
theorem dX11_walkTo_65 : decode cX11_walkTo 65 = .ok (.iaload, 1) := by decide +kernel
theorem dX11_walkTo_66 : decode cX11_walkTo 66 = .ok (.if_icmp .ge 76, 3) := by decide +kernel
theorem dX11_walkTo_69 : decode cX11_walkTo 69 = .ok (.iload_n 2, 1) := by decide +kernel
theorem dX11_walkTo_70 : decode cX11_walkTo 70 = .ok (.iconst 1, 1) := by decide +kernel
theorem dX11_walkTo_71 : decode cX11_walkTo 71 = .ok (.if_icmp .ne 17, 3) := by decide +kernel
theorem dX11_walkTo_74 : decode cX11_walkTo 74 = .ok (.iload 4, 2) := by decide +kernel
theorem dX11_walkTo_76 : decode cX11_walkTo 76 = .ok (.iload_n 1, 1) := by decide +kernel
theorem dX11_walkTo_77 : decode cX11_walkTo 77 = .ok (.if_icmp .ne 7, 3) := by decide +kernel
theorem dX11_walkTo_80 : decode cX11_walkTo 80 = .ok (.iconst 1, 1) := by decide +kernel
theorem dX11_walkTo_81 : decode cX11_walkTo 81 = .ok (.goto 31, 3) := by decide +kernel
theorem dX11_walkTo_84 : decode cX11_walkTo 84 = .ok (.iconst 0, 1) := by decide +kernel
theorem dX11_walkTo_85 : decode cX11_walkTo 85 = .ok (.goto 27, 3) := by decide +kernel
theorem dX11_walkTo_88 : decode cX11_walkTo 88 = .ok (.iload 4, 2) := by decide +kernel
theorem dX11_walkTo_90 : decode cX11_walkTo 90 = .ok (.iload_n 1, 1) := by decide +kernel
theorem dX11_walkTo_91 : decode cX11_walkTo 91 = .ok (.if_icmp .eq 20, 3) := by decide +kernel
theorem dX11_walkTo_94 : decode cX11_walkTo 94 = .ok (.aload_n 0, 1) := by decide +kernel
theorem dX11_walkTo_95 : decode cX11_walkTo 95 = .ok (.getfield 42, 3) := by decide +kernel
theorem dX11_walkTo_98 : decode cX11_walkTo 98 = .ok (.iload 4, 2) := by decide +kernel
theorem dX11_walkTo_100 : decode cX11_walkTo 100 = .ok (.iaload, 1) := by decide +kernel
theorem dX11_walkTo_101 : decode cX11_walkTo 101 = .ok (.iload_n 2, 1) := by decide +kernel
theorem dX11_walkTo_102 : decode cX11_walkTo 102 = .ok (.iconst 1, 1) := by decide +kernel
theorem dX11_walkTo_103 : decode cX11_walkTo 103 = .ok (.isub, 1) := by decide +kernel
theorem dX11_walkTo_104 : decode cX11_walkTo 104 = .ok (.if_icmp .ne 7, 3) := by decide +kernel
theorem dX11_walkTo_107 : decode cX11_walkTo 107 = .ok (.iconst 1, 1) := by decide +kernel
theorem dX11_walkTo_108 : decode cX11_walkTo 108 = .ok (.goto 4, 3) := by decide +kernel
theorem dX11_walkTo_111 : decode cX11_walkTo 111 = .ok (.iconst 0, 1) := by decide +kernel
theorem dX11_walkTo_112 : decode cX11_walkTo 112 = .ok (.istore 5, 2) := by decide +kernel
theorem dX11_walkTo_114 : decode cX11_walkTo 114 = .ok (.iload 5, 2) := by decide +kernel
theorem dX11_walkTo_116 : decode cX11_walkTo 116 = .ok (.ifCond .eq 20, 3) := by decide +kernel
theorem dX11_walkTo_119 : decode cX11_walkTo 119 = .ok (.aload_n 0, 1) := by decide +kernel
theorem dX11_walkTo_120 : decode cX11_walkTo 120 = .ok (.iload_n 3, 1) := by decide +kernel
theorem dX11_walkTo_121 : decode cX11_walkTo 121 = .ok (.iload 4, 2) := by decide +kernel
theorem dX11_walkTo_123 : decode cX11_walkTo 123 = .ok (.invokevirtual 129, 3) := by decide +kernel
theorem dX11_walkTo_126 : decode cX11_walkTo 126 = .ok (.ifCond .eq 10, 3) := by decide +kernel
theorem dX11_walkTo_129 : decode cX11_walkTo 129 = .ok (.aload_n 0, 1) := by decide +kernel
theorem dX11_walkTo_130 : decode cX11_walkTo 130 = .ok (.getfield 42, 3) := by decide +kernel
theorem dX11_walkTo_133 : decode cX11_walkTo 133 = .ok (.iload_n 3, 1) := by decide +kernel
theorem dX11_walkTo_134 : decode cX11_walkTo 134 = .ok (.iload_n 2, 1) := by decide +kernel
theorem dX11_walkTo_135 : decode cX11_walkTo 135 = .ok (.iastore, 1) := by decide +kernel
theorem dX11_walkTo_136 : decode cX11_walkTo 136 = .ok (.iinc 4 1, 3) := by decide +kernel
theorem dX11_walkTo_139 : decode cX11_walkTo 139 = .ok (.goto (-91), 3) := by decide +kernel
theorem dX11_walkTo_142 : decode cX11_walkTo 142 = .ok (.iinc 3 1, 3) := by decide +kernel
theorem dX11_walkTo_145 : decode cX11_walkTo 145 = .ok (.goto (-110), 3) := by decide +kernel
theorem dX11_walkTo_148 : decode cX11_walkTo 148 = .ok (.iinc 2 1, 3) := by decide +kernel
theorem dX11_walkTo_151 : decode cX11_walkTo 151 = .ok (.goto (-128), 3) := by decide +kernel
theorem dX11_walkTo_154 : decode cX11_walkTo 154 = .ok (.return_, 1) := by decide +kernel
set_option maxRecDepth 20000 in
theorem ggX11_findCycle_X11_walkTo : GoodIn wsX11_findCycle wsX11_walkTo := goodIn_r _ [7, 1, 8, 9, 10, 11, 6, 12, 13, 14, 15, 16, 17, 18, 19, 20, 21, 22, 23, 24, 25, 26, 27, 28, 29, 30, 31, 32, 33, 34, 35, 36, 37, 38, 39, 40, 41, 42, 43, 44, 45, 46, 47, 48] (by decide +kernel) (by decide +kernel)
set_option maxRecDepth 20000 in
theorem gX11_findCycle_X11_walkTo : GoodIn wsX11_findCycle (wsV RX11 133 RX11 yX11_walkTo wsX11_walkTo) := goodIn_app (goodIn_of _ (by decide +kernel)) ggX11_findCycle_X11_walkTo
set_option maxRecDepth 20000 in
theorem ggX11_findCycle_X11_hasEnvy : GoodIn wsX11_findCycle wsX11_hasEnvy := goodIn_r _ [12, 13, 14, 15, 6, 16, 8, 17, 18, 19, 20, 21, 22, 23, 24, 25, 26, 27, 28, 29, 30, 31, 32, 33, 34, 35, 36, 37, 38, 39, 40, 41, 42, 43, 44, 45, 46, 47, 48] (by decide +kernel) (by decide +kernel)
set_option maxRecDepth 20000 in
theorem gX11_findCycle_X11_hasEnvy : GoodIn wsX11_findCycle (wsV RX11 129 RX11 yX11_hasEnvy wsX11_hasEnvy) := goodIn_app (goodIn_of _ (by decide +kernel)) ggX11_findCycle_X11_hasEnvy
theorem dX11_findCycle_0 : decode cX11_findCycle 0 = .ok (.aload_n 0, 1) := by decide +kernel
theorem dX11_findCycle_1 : decode cX11_findCycle 1 = .ok (.iload_n 1, 1) := by decide +kernel
theorem dX11_findCycle_2 : decode cX11_findCycle 2 = .ok (.invokevirtual 133, 3) := by decide +kernel
theorem dX11_findCycle_5 : decode cX11_findCycle 5 = .ok (.aload_n 0, 1) := by decide +kernel
theorem dX11_findCycle_6 : decode cX11_findCycle 6 = .ok (.getfield 42, 3) := by decide +kernel
theorem dX11_findCycle_9 : decode cX11_findCycle 9 = .ok (.iload_n 1, 1) := by decide +kernel
theorem dX11_findCycle_10 : decode cX11_findCycle 10 = .ok (.iaload, 1) := by decide +kernel
theorem dX11_findCycle_11 : decode cX11_findCycle 11 = .ok (.istore_n 2, 1) := by decide +kernel
theorem dX11_findCycle_12 : decode cX11_findCycle 12 = .ok (.iload_n 2, 1) := by decide +kernel
theorem dX11_findCycle_13 : decode cX11_findCycle 13 = .ok (.iconst (-1), 1) := by decide +kernel
theorem dX11_findCycle_14 : decode cX11_findCycle 14 = .ok (.if_icmp .ne 5, 3) := by decide +kernel
theorem dX11_findCycle_17 : decode cX11_findCycle 17 = .ok (.iconst (-1), 1) := by decide +kernel
theorem dX11_findCycle_18 : decode cX11_findCycle 18 = .ok (.ireturn, 1) := by decide +kernel
theorem dX11_findCycle_19 : decode cX11_findCycle 19 = .ok (.aload_n 0, 1) := by decide +kernel
theorem dX11_findCycle_20 : decode cX11_findCycle 20 = .ok (.getfield 45, 3) := by decide +kernel
theorem dX11_findCycle_23 : decode cX11_findCycle 23 = .ok (.iconst 0, 1) := by decide +kernel
theorem dX11_findCycle_24 : decode cX11_findCycle 24 = .ok (.iload_n 1, 1) := by decide +kernel
theorem dX11_findCycle_25 : decode cX11_findCycle 25 = .ok (.iastore, 1) := by decide +kernel
theorem dX11_findCycle_26 : decode cX11_findCycle 26 = .ok (.iconst 1, 1) := by decide +kernel
theorem dX11_findCycle_27 : decode cX11_findCycle 27 = .ok (.istore_n 3, 1) := by decide +kernel
theorem dX11_findCycle_28 : decode cX11_findCycle 28 = .ok (.iload_n 3, 1) := by decide +kernel
theorem dX11_findCycle_29 : decode cX11_findCycle 29 = .ok (.iload_n 2, 1) := by decide +kernel
theorem dX11_findCycle_30 : decode cX11_findCycle 30 = .ok (.if_icmp .ge 62, 3) := by decide +kernel
theorem dX11_findCycle_33 : decode cX11_findCycle 33 = .ok (.iconst 0, 1) := by decide +kernel
theorem dX11_findCycle_34 : decode cX11_findCycle 34 = .ok (.istore 4, 2) := by decide +kernel
theorem dX11_findCycle_36 : decode cX11_findCycle 36 = .ok (.iload 4, 2) := by decide +kernel
theorem dX11_findCycle_38 : decode cX11_findCycle 38 = .ok (.iload_n 1, 1) := by decide +kernel
theorem dX11_findCycle_39 : decode cX11_findCycle 39 = .ok (.if_icmp .eq 33, 3) := by decide +kernel
theorem dX11_findCycle_42 : decode cX11_findCycle 42 = .ok (.aload_n 0, 1) := by decide +kernel
theorem dX11_findCycle_43 : decode cX11_findCycle 43 = .ok (.getfield 42, 3) := by decide +kernel
theorem dX11_findCycle_46 : decode cX11_findCycle 46 = .ok (.iload 4, 2) := by decide +kernel
theorem dX11_findCycle_48 : decode cX11_findCycle 48 = .ok (.iaload, 1) := by decide +kernel
theorem dX11_findCycle_49 : decode cX11_findCycle 49 = .ok (.iload_n 2, 1) := by decide +kernel
theorem dX11_findCycle_50 : decode cX11_findCycle 50 = .ok (.iload_n 3, 1) := by decide +kernel
theorem dX11_findCycle_51 : decode cX11_findCycle 51 = .ok (.isub, 1) := by decide +kernel
theorem dX11_findCycle_52 : decode cX11_findCycle 52 = .ok (.if_icmp .ne 20, 3) := by decide +kernel
theorem dX11_findCycle_55 : decode cX11_findCycle 55 = .ok (.aload_n 0, 1) := by decide +kernel
theorem dX11_findCycle_56 : decode cX11_findCycle 56 = .ok (.aload_n 0, 1) := by decide +kernel
theorem dX11_findCycle_57 : decode cX11_findCycle 57 = .ok (.getfield 45, 3) := by decide +kernel
theorem dX11_findCycle_60 : decode cX11_findCycle 60 = .ok (.iload_n 3, 1) := by decide +kernel
theorem dX11_findCycle_61 : decode cX11_findCycle 61 = .ok (.iconst 1, 1) := by decide +kernel
theorem dX11_findCycle_62 : decode cX11_findCycle 62 = .ok (.isub, 1) := by decide +kernel
theorem dX11_findCycle_63 : decode cX11_findCycle 63 = .ok (.iaload, 1) := by decide +kernel
theorem dX11_findCycle_64 : decode cX11_findCycle 64 = .ok (.iload 4, 2) := by decide +kernel
theorem dX11_findCycle_66 : decode cX11_findCycle 66 = .ok (.invokevirtual 129, 3) := by decide +kernel
theorem dX11_findCycle_69 : decode cX11_findCycle 69 = .ok (.ifCond .ne 9, 3) := by decide +kernel
theorem dX11_findCycle_72 : decode cX11_findCycle 72 = .ok (.iinc 4 1, 3) := by decide +kernel
theorem dX11_findCycle_75 : decode cX11_findCycle 75 = .ok (.goto (-39), 3) := by decide +kernel
theorem dX11_findCycle_78 : decode cX11_findCycle 78 = .ok (.aload_n 0, 1) := by decide +kernel
theorem dX11_findCycle_79 : decode cX11_findCycle 79 = .ok (.getfield 45, 3) := by decide +kernel
theorem dX11_findCycle_82 : decode cX11_findCycle 82 = .ok (.iload_n 3, 1) := by decide +kernel
theorem dX11_findCycle_83 : decode cX11_findCycle 83 = .ok (.iload 4, 2) := by decide +kernel
theorem dX11_findCycle_85 : decode cX11_findCycle 85 = .ok (.iastore, 1) := by decide +kernel
theorem dX11_findCycle_86 : decode cX11_findCycle 86 = .ok (.iinc 3 1, 3) := by decide +kernel
theorem dX11_findCycle_89 : decode cX11_findCycle 89 = .ok (.goto (-61), 3) := by decide +kernel
theorem dX11_findCycle_92 : decode cX11_findCycle 92 = .ok (.iload_n 2, 1) := by decide +kernel
theorem dX11_findCycle_93 : decode cX11_findCycle 93 = .ok (.ireturn, 1) := by decide +kernel
theorem dX11_clear_0 : decode cX11_clear 0 = .ok (.iconst 0, 1) := by decide +kernel
theorem dX11_clear_1 : decode cX11_clear 1 = .ok (.istore_n 1, 1) := by decide +kernel
theorem dX11_clear_2 : decode cX11_clear 2 = .ok (.iload_n 1, 1) := by decide +kernel
theorem dX11_clear_3 : decode cX11_clear 3 = .ok (.aload_n 0, 1) := by decide +kernel
theorem dX11_clear_4 : decode cX11_clear 4 = .ok (.getfield 13, 3) := by decide +kernel
theorem dX11_clear_7 : decode cX11_clear 7 = .ok (.iconst 0, 1) := by decide +kernel
theorem dX11_clear_8 : decode cX11_clear 8 = .ok (.iaload, 1) := by decide +kernel
theorem dX11_clear_9 : decode cX11_clear 9 = .ok (.if_icmp .ge 18, 3) := by decide +kernel
theorem dX11_clear_12 : decode cX11_clear 12 = .ok (.aload_n 0, 1) := by decide +kernel
theorem dX11_clear_13 : decode cX11_clear 13 = .ok (.getfield 13, 3) := by decide +kernel
theorem dX11_clear_16 : decode cX11_clear 16 = .ok (.iconst 2, 1) := by decide +kernel
theorem dX11_clear_17 : decode cX11_clear 17 = .ok (.iload_n 1, 1) := by decide +kernel
theorem dX11_clear_18 : decode cX11_clear 18 = .ok (.iadd, 1) := by decide +kernel
theorem dX11_clear_19 : decode cX11_clear 19 = .ok (.iconst (-1), 1) := by decide +kernel
theorem dX11_clear_20 : decode cX11_clear 20 = .ok (.iastore, 1) := by decide +kernel
theorem dX11_clear_21 : decode cX11_clear 21 = .ok (.iinc 1 1, 3) := by decide +kernel
theorem dX11_clear_24 : decode cX11_clear 24 = .ok (.goto (-22), 3) := by decide +kernel
theorem dX11_clear_27 : decode cX11_clear 27 = .ok (.return_, 1) := by decide +kernel
theorem dX11_own_0 : decode cX11_own 0 = .ok (.iload_n 2, 1) := by decide +kernel
theorem dX11_own_1 : decode cX11_own 1 = .ok (.istore 4, 2) := by decide +kernel
theorem dX11_own_3 : decode cX11_own 3 = .ok (.iload 4, 2) := by decide +kernel
theorem dX11_own_5 : decode cX11_own 5 = .ok (.iload_n 3, 1) := by decide +kernel
theorem dX11_own_6 : decode cX11_own 6 = .ok (.if_icmp .gt 19, 3) := by decide +kernel
theorem dX11_own_9 : decode cX11_own 9 = .ok (.aload_n 0, 1) := by decide +kernel
theorem dX11_own_10 : decode cX11_own 10 = .ok (.getfield 13, 3) := by decide +kernel
theorem dX11_own_13 : decode cX11_own 13 = .ok (.iconst 2, 1) := by decide +kernel
theorem dX11_own_14 : decode cX11_own 14 = .ok (.iload 4, 2) := by decide +kernel
theorem dX11_own_16 : decode cX11_own 16 = .ok (.iadd, 1) := by decide +kernel
theorem dX11_own_17 : decode cX11_own 17 = .ok (.iload_n 1, 1) := by decide +kernel
theorem dX11_own_18 : decode cX11_own 18 = .ok (.iastore, 1) := by decide +kernel
theorem dX11_own_19 : decode cX11_own 19 = .ok (.iinc 4 1, 3) := by decide +kernel
theorem dX11_own_22 : decode cX11_own 22 = .ok (.goto (-19), 3) := by decide +kernel
theorem dX11_own_25 : decode cX11_own 25 = .ok (.return_, 1) := by decide +kernel
set_option maxRecDepth 20000 in
theorem ggX11_cutOf_X11_totalOf : GoodIn wsX11_cutOf wsX11_totalOf := goodIn_r _ [6, 1, 7, 8, 9, 5, 10, 11, 12, 13, 14, 15, 16, 17, 18, 19, 20, 21, 22, 23, 24, 25, 26, 27, 28, 29, 30, 31, 32, 33, 34] (by decide +kernel) (by decide +kernel)
set_option maxRecDepth 20000 in
theorem gX11_cutOf_X11_totalOf : GoodIn wsX11_cutOf (wsV RX11 123 RX11 yX11_totalOf wsX11_totalOf) := goodIn_app (goodIn_of _ (by decide +kernel)) ggX11_cutOf_X11_totalOf
set_option maxRecDepth 20000 in
theorem ggX11_cutOf_X11_worthOf : GoodIn wsX11_cutOf wsX11_worthOf := goodIn_r _ [10, 11, 12, 13, 5, 14, 1, 15, 16, 17, 18, 19, 20, 21, 22, 23, 24, 25, 26, 27, 28, 29, 30, 31, 32, 33, 34] (by decide +kernel) (by decide +kernel)
set_option maxRecDepth 20000 in
theorem gX11_cutOf_X11_worthOf : GoodIn wsX11_cutOf (wsV RX11 109 RX11 yX11_worthOf wsX11_worthOf) := goodIn_app (goodIn_of _ (by decide +kernel)) ggX11_cutOf_X11_worthOf
theorem dX11_cutOf_0 : decode cX11_cutOf 0 = .ok (.iconst 0, 1) := by decide +kernel
theorem dX11_cutOf_1 : decode cX11_cutOf 1 = .ok (.istore_n 2, 1) := by decide +kernel
theorem dX11_cutOf_2 : decode cX11_cutOf 2 = .ok (.aload_n 0, 1) := by decide +kernel
theorem dX11_cutOf_3 : decode cX11_cutOf 3 = .ok (.iload_n 1, 1) := by decide +kernel
theorem dX11_cutOf_4 : decode cX11_cutOf 4 = .ok (.invokevirtual 123, 3) := by decide +kernel
theorem dX11_cutOf_7 : decode cX11_cutOf 7 = .ok (.istore_n 3, 1) := by decide +kernel
theorem dX11_cutOf_8 : decode cX11_cutOf 8 = .ok (.iconst 1, 1) := by decide +kernel
theorem dX11_cutOf_9 : decode cX11_cutOf 9 = .ok (.istore 4, 2) := by decide +kernel
theorem dX11_cutOf_11 : decode cX11_cutOf 11 = .ok (.iload 4, 2) := by decide +kernel
theorem dX11_cutOf_13 : decode cX11_cutOf 13 = .ok (.aload_n 0, 1) := by decide +kernel
theorem dX11_cutOf_14 : decode cX11_cutOf 14 = .ok (.getfield 13, 3) := by decide +kernel
theorem dX11_cutOf_17 : decode cX11_cutOf 17 = .ok (.iconst 0, 1) := by decide +kernel
theorem dX11_cutOf_18 : decode cX11_cutOf 18 = .ok (.iaload, 1) := by decide +kernel
theorem dX11_cutOf_19 : decode cX11_cutOf 19 = .ok (.if_icmp .gt 54, 3) := by decide +kernel
theorem dX11_cutOf_22 : decode cX11_cutOf 22 = .ok (.aload_n 0, 1) := by decide +kernel
theorem dX11_cutOf_23 : decode cX11_cutOf 23 = .ok (.iload_n 1, 1) := by decide +kernel
theorem dX11_cutOf_24 : decode cX11_cutOf 24 = .ok (.invokevirtual 123, 3) := by decide +kernel
theorem dX11_cutOf_27 : decode cX11_cutOf 27 = .ok (.iconst 2, 1) := by decide +kernel
theorem dX11_cutOf_28 : decode cX11_cutOf 28 = .ok (.aload_n 0, 1) := by decide +kernel
theorem dX11_cutOf_29 : decode cX11_cutOf 29 = .ok (.iload_n 1, 1) := by decide +kernel
theorem dX11_cutOf_30 : decode cX11_cutOf 30 = .ok (.iconst 0, 1) := by decide +kernel
theorem dX11_cutOf_31 : decode cX11_cutOf 31 = .ok (.iload 4, 2) := by decide +kernel
theorem dX11_cutOf_33 : decode cX11_cutOf 33 = .ok (.iconst 1, 1) := by decide +kernel
theorem dX11_cutOf_34 : decode cX11_cutOf 34 = .ok (.isub, 1) := by decide +kernel
theorem dX11_cutOf_35 : decode cX11_cutOf 35 = .ok (.invokevirtual 109, 3) := by decide +kernel
theorem dX11_cutOf_38 : decode cX11_cutOf 38 = .ok (.imul, 1) := by decide +kernel
theorem dX11_cutOf_39 : decode cX11_cutOf 39 = .ok (.isub, 1) := by decide +kernel
theorem dX11_cutOf_40 : decode cX11_cutOf 40 = .ok (.istore 5, 2) := by decide +kernel
theorem dX11_cutOf_42 : decode cX11_cutOf 42 = .ok (.iload 5, 2) := by decide +kernel
theorem dX11_cutOf_44 : decode cX11_cutOf 44 = .ok (.ifCond .ge 8, 3) := by decide +kernel
theorem dX11_cutOf_47 : decode cX11_cutOf 47 = .ok (.iload 5, 2) := by decide +kernel
theorem dX11_cutOf_49 : decode cX11_cutOf 49 = .ok (.ineg, 1) := by decide +kernel
theorem dX11_cutOf_50 : decode cX11_cutOf 50 = .ok (.istore 5, 2) := by decide +kernel
theorem dX11_cutOf_52 : decode cX11_cutOf 52 = .ok (.iload 5, 2) := by decide +kernel
theorem dX11_cutOf_54 : decode cX11_cutOf 54 = .ok (.iload_n 3, 1) := by decide +kernel
theorem dX11_cutOf_55 : decode cX11_cutOf 55 = .ok (.if_icmp .lt 6, 3) := by decide +kernel
theorem dX11_cutOf_58 : decode cX11_cutOf 58 = .ok (.goto 9, 3) := by decide +kernel
theorem dX11_cutOf_61 : decode cX11_cutOf 61 = .ok (.iload 4, 2) := by decide +kernel
theorem dX11_cutOf_63 : decode cX11_cutOf 63 = .ok (.istore_n 2, 1) := by decide +kernel
theorem dX11_cutOf_64 : decode cX11_cutOf 64 = .ok (.iload 5, 2) := by decide +kernel
theorem dX11_cutOf_66 : decode cX11_cutOf 66 = .ok (.istore_n 3, 1) := by decide +kernel
theorem dX11_cutOf_67 : decode cX11_cutOf 67 = .ok (.iinc 4 1, 3) := by decide +kernel
theorem dX11_cutOf_70 : decode cX11_cutOf 70 = .ok (.goto (-59), 3) := by decide +kernel
theorem dX11_cutOf_73 : decode cX11_cutOf 73 = .ok (.iload_n 2, 1) := by decide +kernel
theorem dX11_cutOf_74 : decode cX11_cutOf 74 = .ok (.ireturn, 1) := by decide +kernel
set_option maxRecDepth 20000 in
theorem ggX11_divide_X11_cutOf : GoodIn wsX11_divide wsX11_cutOf := goodIn_r _ [6, 1, 7, 8, 9, 5, 10, 11, 12, 13, 14, 15, 16, 17, 18, 23, 24, 25, 26, 27, 28, 29, 30, 31, 32, 33, 34, 35, 36, 37, 38, 39, 40, 41, 42] (by decide +kernel) (by decide +kernel)
set_option maxRecDepth 20000 in
theorem gX11_divide_X11_cutOf : GoodIn wsX11_divide (wsV RX11 137 RX11 yX11_cutOf wsX11_cutOf) := goodIn_app (goodIn_of _ (by decide +kernel)) ggX11_divide_X11_cutOf
set_option maxRecDepth 20000 in
theorem ggX11_divide_X11_worthOf : GoodIn wsX11_divide wsX11_worthOf := goodIn_r _ [14, 15, 16, 17, 5, 18, 1, 23, 24, 25, 26, 27, 28, 29, 30, 31, 32, 33, 34, 35, 36, 37, 38, 39, 40, 41, 42] (by decide +kernel) (by decide +kernel)
set_option maxRecDepth 20000 in
theorem gX11_divide_X11_worthOf : GoodIn wsX11_divide (wsV RX11 109 RX11 yX11_worthOf wsX11_worthOf) := goodIn_app (goodIn_of _ (by decide +kernel)) ggX11_divide_X11_worthOf
set_option maxRecDepth 20000 in
theorem ggX11_divide_X11_totalOf : GoodIn wsX11_divide wsX11_totalOf := goodIn_r _ [10, 1, 11, 12, 13, 5, 14, 15, 16, 17, 18, 23, 24, 25, 26, 27, 28, 29, 30, 31, 32, 33, 34, 35, 36, 37, 38, 39, 40, 41, 42] (by decide +kernel) (by decide +kernel)
set_option maxRecDepth 20000 in
theorem gX11_divide_X11_totalOf : GoodIn wsX11_divide (wsV RX11 123 RX11 yX11_totalOf wsX11_totalOf) := goodIn_app (goodIn_of _ (by decide +kernel)) ggX11_divide_X11_totalOf
set_option maxRecDepth 20000 in
theorem ggX11_divide_X11_own : GoodIn wsX11_divide wsX11_own := goodIn_r _ [22, 1, 23, 24, 25, 26, 27, 28, 29, 30, 31, 32, 33, 34, 35, 36, 37, 38, 39, 40, 41, 42] (by decide +kernel) (by decide +kernel)
set_option maxRecDepth 20000 in
theorem gX11_divide_X11_own : GoodIn wsX11_divide (wsV RX11 140 RX11 yX11_own wsX11_own) := goodIn_app (goodIn_of _ (by decide +kernel)) ggX11_divide_X11_own
theorem dX11_divide_0 : decode cX11_divide 0 = .ok (.aload_n 0, 1) := by decide +kernel
theorem dX11_divide_1 : decode cX11_divide 1 = .ok (.iload_n 1, 1) := by decide +kernel
theorem dX11_divide_2 : decode cX11_divide 2 = .ok (.invokevirtual 137, 3) := by decide +kernel
theorem dX11_divide_5 : decode cX11_divide 5 = .ok (.istore_n 3, 1) := by decide +kernel
theorem dX11_divide_6 : decode cX11_divide 6 = .ok (.iconst 2, 1) := by decide +kernel
theorem dX11_divide_7 : decode cX11_divide 7 = .ok (.aload_n 0, 1) := by decide +kernel
theorem dX11_divide_8 : decode cX11_divide 8 = .ok (.iload_n 2, 1) := by decide +kernel
theorem dX11_divide_9 : decode cX11_divide 9 = .ok (.iconst 0, 1) := by decide +kernel
theorem dX11_divide_10 : decode cX11_divide 10 = .ok (.iload_n 3, 1) := by decide +kernel
theorem dX11_divide_11 : decode cX11_divide 11 = .ok (.iconst 1, 1) := by decide +kernel
theorem dX11_divide_12 : decode cX11_divide 12 = .ok (.isub, 1) := by decide +kernel
theorem dX11_divide_13 : decode cX11_divide 13 = .ok (.invokevirtual 109, 3) := by decide +kernel
theorem dX11_divide_16 : decode cX11_divide 16 = .ok (.imul, 1) := by decide +kernel
theorem dX11_divide_17 : decode cX11_divide 17 = .ok (.aload_n 0, 1) := by decide +kernel
theorem dX11_divide_18 : decode cX11_divide 18 = .ok (.iload_n 2, 1) := by decide +kernel
theorem dX11_divide_19 : decode cX11_divide 19 = .ok (.invokevirtual 123, 3) := by decide +kernel
theorem dX11_divide_22 : decode cX11_divide 22 = .ok (.if_icmp .lt 7, 3) := by decide +kernel
theorem dX11_divide_25 : decode cX11_divide 25 = .ok (.iconst 1, 1) := by decide +kernel
theorem dX11_divide_26 : decode cX11_divide 26 = .ok (.goto 4, 3) := by decide +kernel
theorem dX11_divide_29 : decode cX11_divide 29 = .ok (.iconst 0, 1) := by decide +kernel
theorem dX11_divide_30 : decode cX11_divide 30 = .ok (.istore 4, 2) := by decide +kernel
theorem dX11_divide_32 : decode cX11_divide 32 = .ok (.aload_n 0, 1) := by decide +kernel
theorem dX11_divide_33 : decode cX11_divide 33 = .ok (.iload 4, 2) := by decide +kernel
theorem dX11_divide_35 : decode cX11_divide 35 = .ok (.ifCond .eq 7, 3) := by decide +kernel
theorem dX11_divide_38 : decode cX11_divide 38 = .ok (.iload_n 2, 1) := by decide +kernel
theorem dX11_divide_39 : decode cX11_divide 39 = .ok (.goto 4, 3) := by decide +kernel
theorem dX11_divide_42 : decode cX11_divide 42 = .ok (.iload_n 1, 1) := by decide +kernel
theorem dX11_divide_43 : decode cX11_divide 43 = .ok (.iconst 0, 1) := by decide +kernel
theorem dX11_divide_44 : decode cX11_divide 44 = .ok (.iload_n 3, 1) := by decide +kernel
theorem dX11_divide_45 : decode cX11_divide 45 = .ok (.iconst 1, 1) := by decide +kernel
theorem dX11_divide_46 : decode cX11_divide 46 = .ok (.isub, 1) := by decide +kernel
theorem dX11_divide_47 : decode cX11_divide 47 = .ok (.invokevirtual 140, 3) := by decide +kernel
theorem dX11_divide_50 : decode cX11_divide 50 = .ok (.aload_n 0, 1) := by decide +kernel
theorem dX11_divide_51 : decode cX11_divide 51 = .ok (.iload 4, 2) := by decide +kernel
theorem dX11_divide_53 : decode cX11_divide 53 = .ok (.ifCond .eq 7, 3) := by decide +kernel
theorem dX11_divide_56 : decode cX11_divide 56 = .ok (.iload_n 1, 1) := by decide +kernel
theorem dX11_divide_57 : decode cX11_divide 57 = .ok (.goto 4, 3) := by decide +kernel
theorem dX11_divide_60 : decode cX11_divide 60 = .ok (.iload_n 2, 1) := by decide +kernel
theorem dX11_divide_61 : decode cX11_divide 61 = .ok (.iload_n 3, 1) := by decide +kernel
theorem dX11_divide_62 : decode cX11_divide 62 = .ok (.aload_n 0, 1) := by decide +kernel
theorem dX11_divide_63 : decode cX11_divide 63 = .ok (.getfield 13, 3) := by decide +kernel
theorem dX11_divide_66 : decode cX11_divide 66 = .ok (.iconst 0, 1) := by decide +kernel
theorem dX11_divide_67 : decode cX11_divide 67 = .ok (.iaload, 1) := by decide +kernel
theorem dX11_divide_68 : decode cX11_divide 68 = .ok (.iconst 1, 1) := by decide +kernel
theorem dX11_divide_69 : decode cX11_divide 69 = .ok (.isub, 1) := by decide +kernel
theorem dX11_divide_70 : decode cX11_divide 70 = .ok (.invokevirtual 140, 3) := by decide +kernel
theorem dX11_divide_73 : decode cX11_divide 73 = .ok (.iload_n 3, 1) := by decide +kernel
theorem dX11_divide_74 : decode cX11_divide 74 = .ok (.ireturn, 1) := by decide +kernel
set_option maxRecDepth 20000 in
theorem ggX11_knife_X11_clear : GoodIn wsX11_knife wsX11_clear := goodIn_r _ [7, 2, 48, 49, 50, 51, 52, 53, 54, 55, 56, 57, 58, 59, 60, 61, 62, 63, 64, 65, 66, 67] (by decide +kernel) (by decide +kernel)
set_option maxRecDepth 20000 in
theorem gX11_knife_X11_clear : GoodIn wsX11_knife (wsV RX11 144 RX11 yX11_clear wsX11_clear) := goodIn_app (goodIn_of _ (by decide +kernel)) ggX11_knife_X11_clear
set_option maxRecDepth 20000 in
theorem ggX11_knife_X11_markOf : GoodIn wsX11_knife wsX11_markOf := goodIn_r _ [11, 2, 12, 13, 14, 6, 15, 16, 17, 18, 19, 48, 49, 50, 51, 52, 53, 54, 55, 56, 57, 58, 59, 60, 61, 62, 63, 64, 65, 66, 67] (by decide +kernel) (by decide +kernel)
set_option maxRecDepth 20000 in
theorem gX11_knife_X11_markOf : GoodIn wsX11_knife (wsV RX11 147 RX11 yX11_markOf wsX11_markOf) := goodIn_app (goodIn_of _ (by decide +kernel)) ggX11_knife_X11_markOf
set_option maxRecDepth 20000 in
theorem ggX11_knife_X11_own : GoodIn wsX11_knife wsX11_own := goodIn_r _ [23, 2, 48, 49, 50, 51, 52, 53, 54, 55, 56, 57, 58, 59, 60, 61, 62, 63, 64, 65, 66, 67] (by decide +kernel) (by decide +kernel)
set_option maxRecDepth 20000 in
theorem gX11_knife_X11_own : GoodIn wsX11_knife (wsV RX11 140 RX11 yX11_own wsX11_own) := goodIn_app (goodIn_of _ (by decide +kernel)) ggX11_knife_X11_own
set_option maxRecDepth 20000 in
theorem ggX11_knife_X11_contentCount : GoodIn wsX11_knife wsX11_contentCount := goodIn_r _ [27, 2, 28, 29, 30, 6, 31, 32, 33, 34, 35, 36, 37, 38, 39, 40, 41, 42, 43, 16, 17, 18, 19, 44, 45, 46, 47, 12, 13, 14, 15, 48, 49, 50, 51, 52, 53, 54, 55, 56, 57, 58, 59, 60, 61, 62, 63, 64, 65, 66, 67] (by decide +kernel) (by decide +kernel)
set_option maxRecDepth 20000 in
theorem gX11_knife_X11_contentCount : GoodIn wsX11_knife (wsV RX11 150 RX11 yX11_contentCount wsX11_contentCount) := goodIn_app (goodIn_of _ (by decide +kernel)) ggX11_knife_X11_contentCount
theorem dX11_knife_0 : decode cX11_knife 0 = .ok (.aload_n 0, 1) := by decide +kernel
theorem dX11_knife_1 : decode cX11_knife 1 = .ok (.invokevirtual 144, 3) := by decide +kernel
theorem dX11_knife_4 : decode cX11_knife 4 = .ok (.iconst 0, 1) := by decide +kernel
theorem dX11_knife_5 : decode cX11_knife 5 = .ok (.istore_n 1, 1) := by decide +kernel
theorem dX11_knife_6 : decode cX11_knife 6 = .ok (.iload_n 1, 1) := by decide +kernel
theorem dX11_knife_7 : decode cX11_knife 7 = .ok (.bipush 6, 2) := by decide +kernel
theorem dX11_knife_9 : decode cX11_knife 9 = .ok (.if_icmp .ge 16, 3) := by decide +kernel
theorem dX11_knife_12 : decode cX11_knife 12 = .ok (.aload_n 0, 1) := by decide +kernel
theorem dX11_knife_13 : decode cX11_knife 13 = .ok (.getfield 48, 3) := by decide +kernel
theorem dX11_knife_16 : decode cX11_knife 16 = .ok (.iload_n 1, 1) := by decide +kernel
theorem dX11_knife_17 : decode cX11_knife 17 = .ok (.iconst 0, 1) := by decide +kernel
theorem dX11_knife_18 : decode cX11_knife 18 = .ok (.bastore, 1) := by decide +kernel
theorem dX11_knife_19 : decode cX11_knife 19 = .ok (.iinc 1 1, 3) := by decide +kernel
theorem dX11_knife_22 : decode cX11_knife 22 = .ok (.goto (-16), 3) := by decide +kernel
theorem dX11_knife_25 : decode cX11_knife 25 = .ok (.iconst 0, 1) := by decide +kernel
theorem dX11_knife_26 : decode cX11_knife 26 = .ok (.istore_n 1, 1) := by decide +kernel
theorem dX11_knife_27 : decode cX11_knife 27 = .ok (.aload_n 0, 1) := by decide +kernel
theorem dX11_knife_28 : decode cX11_knife 28 = .ok (.getfield 13, 3) := by decide +kernel
theorem dX11_knife_31 : decode cX11_knife 31 = .ok (.iconst 1, 1) := by decide +kernel
theorem dX11_knife_32 : decode cX11_knife 32 = .ok (.iaload, 1) := by decide +kernel
theorem dX11_knife_33 : decode cX11_knife 33 = .ok (.istore_n 2, 1) := by decide +kernel
theorem dX11_knife_34 : decode cX11_knife 34 = .ok (.iload_n 2, 1) := by decide +kernel
theorem dX11_knife_35 : decode cX11_knife 35 = .ok (.ifCond .le 132, 3) := by decide +kernel
theorem dX11_knife_38 : decode cX11_knife 38 = .ok (.iload_n 1, 1) := by decide +kernel
theorem dX11_knife_39 : decode cX11_knife 39 = .ok (.aload_n 0, 1) := by decide +kernel
theorem dX11_knife_40 : decode cX11_knife 40 = .ok (.getfield 13, 3) := by decide +kernel
theorem dX11_knife_43 : decode cX11_knife 43 = .ok (.iconst 0, 1) := by decide +kernel
theorem dX11_knife_44 : decode cX11_knife 44 = .ok (.iaload, 1) := by decide +kernel
theorem dX11_knife_45 : decode cX11_knife 45 = .ok (.if_icmp .ge 122, 3) := by decide +kernel
theorem dX11_knife_48 : decode cX11_knife 48 = .ok (.iconst (-1), 1) := by decide +kernel
theorem dX11_knife_49 : decode cX11_knife 49 = .ok (.istore_n 3, 1) := by decide +kernel
theorem dX11_knife_50 : decode cX11_knife 50 = .ok (.aload_n 0, 1) := by decide +kernel
theorem dX11_knife_51 : decode cX11_knife 51 = .ok (.getfield 13, 3) := by decide +kernel
theorem dX11_knife_54 : decode cX11_knife 54 = .ok (.iconst 0, 1) := by decide +kernel
theorem dX11_knife_55 : decode cX11_knife 55 = .ok (.iaload, 1) := by decide +kernel
theorem dX11_knife_56 : decode cX11_knife 56 = .ok (.iconst 1, 1) := by decide +kernel
theorem dX11_knife_57 : decode cX11_knife 57 = .ok (.isub, 1) := by decide +kernel
theorem dX11_knife_58 : decode cX11_knife 58 = .ok (.istore 4, 2) := by decide +kernel
theorem dX11_knife_60 : decode cX11_knife 60 = .ok (.iconst 0, 1) := by decide +kernel
theorem dX11_knife_61 : decode cX11_knife 61 = .ok (.istore 5, 2) := by decide +kernel
theorem dX11_knife_63 : decode cX11_knife 63 = .ok (.iload 5, 2) := by decide +kernel
theorem dX11_knife_65 : decode cX11_knife 65 = .ok (.aload_n 0, 1) := by decide +kernel
theorem dX11_knife_66 : decode cX11_knife 66 = .ok (.getfield 13, 3) := by decide +kernel
theorem dX11_knife_69 : decode cX11_knife 69 = .ok (.iconst 1, 1) := by decide +kernel
theorem dX11_knife_70 : decode cX11_knife 70 = .ok (.iaload, 1) := by decide +kernel
theorem dX11_knife_71 : decode cX11_knife 71 = .ok (.if_icmp .ge 70, 3) := by decide +kernel
theorem dX11_knife_74 : decode cX11_knife 74 = .ok (.aload_n 0, 1) := by decide +kernel
theorem dX11_knife_75 : decode cX11_knife 75 = .ok (.getfield 48, 3) := by decide +kernel
theorem dX11_knife_78 : decode cX11_knife 78 = .ok (.iload 5, 2) := by decide +kernel
theorem dX11_knife_80 : decode cX11_knife 80 = .ok (.baload, 1) := by decide +kernel
theorem dX11_knife_81 : decode cX11_knife 81 = .ok (.ifCond .eq 6, 3) := by decide +kernel
theorem dX11_knife_84 : decode cX11_knife 84 = .ok (.goto 51, 3) := by decide +kernel
theorem dX11_knife_87 : decode cX11_knife 87 = .ok (.iload_n 2, 1) := by decide +kernel
theorem dX11_knife_88 : decode cX11_knife 88 = .ok (.iconst 1, 1) := by decide +kernel
theorem dX11_knife_89 : decode cX11_knife 89 = .ok (.if_icmp .ne 14, 3) := by decide +kernel
theorem dX11_knife_92 : decode cX11_knife 92 = .ok (.aload_n 0, 1) := by decide +kernel
theorem dX11_knife_93 : decode cX11_knife 93 = .ok (.getfield 13, 3) := by decide +kernel
theorem dX11_knife_96 : decode cX11_knife 96 = .ok (.iconst 0, 1) := by decide +kernel
theorem dX11_knife_97 : decode cX11_knife 97 = .ok (.iaload, 1) := by decide +kernel
theorem dX11_knife_98 : decode cX11_knife 98 = .ok (.iconst 1, 1) := by decide +kernel
theorem dX11_knife_99 : decode cX11_knife 99 = .ok (.isub, 1) := by decide +kernel
theorem dX11_knife_100 : decode cX11_knife 100 = .ok (.goto 11, 3) := by decide +kernel
theorem dX11_knife_103 : decode cX11_knife 103 = .ok (.aload_n 0, 1) := by decide +kernel
theorem dX11_knife_104 : decode cX11_knife 104 = .ok (.iload 5, 2) := by decide +kernel
theorem dX11_knife_106 : decode cX11_knife 106 = .ok (.iload_n 1, 1) := by decide +kernel
theorem dX11_knife_107 : decode cX11_knife 107 = .ok (.iload_n 2, 1) := by decide +kernel
theorem dX11_knife_108 : decode cX11_knife 108 = .ok (.invokevirtual 147, 3) := by decide +kernel
theorem dX11_knife_111 : decode cX11_knife 111 = .ok (.istore 6, 2) := by decide +kernel
theorem dX11_knife_113 : decode cX11_knife 113 = .ok (.iload_n 3, 1) := by decide +kernel
theorem dX11_knife_114 : decode cX11_knife 114 = .ok (.iconst (-1), 1) := by decide +kernel
theorem dX11_knife_115 : decode cX11_knife 115 = .ok (.if_icmp .eq 13, 3) := by decide +kernel
theorem dX11_knife_118 : decode cX11_knife 118 = .ok (.iload 6, 2) := by decide +kernel
theorem dX11_knife_120 : decode cX11_knife 120 = .ok (.iload 4, 2) := by decide +kernel
theorem dX11_knife_122 : decode cX11_knife 122 = .ok (.if_icmp .lt 6, 3) := by decide +kernel
theorem dX11_knife_125 : decode cX11_knife 125 = .ok (.goto 10, 3) := by decide +kernel
theorem dX11_knife_128 : decode cX11_knife 128 = .ok (.iload 5, 2) := by decide +kernel
theorem dX11_knife_130 : decode cX11_knife 130 = .ok (.istore_n 3, 1) := by decide +kernel
theorem dX11_knife_131 : decode cX11_knife 131 = .ok (.iload 6, 2) := by decide +kernel
theorem dX11_knife_133 : decode cX11_knife 133 = .ok (.istore 4, 2) := by decide +kernel
theorem dX11_knife_135 : decode cX11_knife 135 = .ok (.iinc 5 1, 3) := by decide +kernel
theorem dX11_knife_138 : decode cX11_knife 138 = .ok (.goto (-75), 3) := by decide +kernel
theorem dX11_knife_141 : decode cX11_knife 141 = .ok (.aload_n 0, 1) := by decide +kernel
theorem dX11_knife_142 : decode cX11_knife 142 = .ok (.iload_n 3, 1) := by decide +kernel
theorem dX11_knife_143 : decode cX11_knife 143 = .ok (.iload_n 1, 1) := by decide +kernel
theorem dX11_knife_144 : decode cX11_knife 144 = .ok (.iload 4, 2) := by decide +kernel
theorem dX11_knife_146 : decode cX11_knife 146 = .ok (.invokevirtual 140, 3) := by decide +kernel
theorem dX11_knife_149 : decode cX11_knife 149 = .ok (.aload_n 0, 1) := by decide +kernel
theorem dX11_knife_150 : decode cX11_knife 150 = .ok (.getfield 48, 3) := by decide +kernel
theorem dX11_knife_153 : decode cX11_knife 153 = .ok (.iload_n 3, 1) := by decide +kernel
theorem dX11_knife_154 : decode cX11_knife 154 = .ok (.iconst 1, 1) := by decide +kernel
theorem dX11_knife_155 : decode cX11_knife 155 = .ok (.bastore, 1) := by decide +kernel
theorem dX11_knife_156 : decode cX11_knife 156 = .ok (.iload 4, 2) := by decide +kernel
theorem dX11_knife_158 : decode cX11_knife 158 = .ok (.iconst 1, 1) := by decide +kernel
theorem dX11_knife_159 : decode cX11_knife 159 = .ok (.iadd, 1) := by decide +kernel
theorem dX11_knife_160 : decode cX11_knife 160 = .ok (.istore_n 1, 1) := by decide +kernel
theorem dX11_knife_161 : decode cX11_knife 161 = .ok (.iinc 2 (-1), 3) := by decide +kernel
theorem dX11_knife_164 : decode cX11_knife 164 = .ok (.goto (-130), 3) := by decide +kernel
theorem dX11_knife_167 : decode cX11_knife 167 = .ok (.aload_n 0, 1) := by decide +kernel
theorem dX11_knife_168 : decode cX11_knife 168 = .ok (.invokevirtual 150, 3) := by decide +kernel
theorem dX11_knife_171 : decode cX11_knife 171 = .ok (.ireturn, 1) := by decide +kernel
set_option maxRecDepth 20000 in
theorem ggX11_robin_X11_favourite : GoodIn wsX11_robin wsX11_favourite := goodIn_r _ [6, 1, 7, 8, 9, 5, 10, 11, 12, 13, 14, 15, 16, 17, 18, 19, 20, 21, 22, 23, 24, 25, 26, 27, 28, 29, 30, 31, 32, 33, 34] (by decide +kernel) (by decide +kernel)
set_option maxRecDepth 20000 in
theorem gX11_robin_X11_favourite : GoodIn wsX11_robin (wsV RX11 153 RX11 yX11_favourite wsX11_favourite) := goodIn_app (goodIn_of _ (by decide +kernel)) ggX11_robin_X11_favourite
theorem dX11_robin_0 : decode cX11_robin 0 = .ok (.iconst 0, 1) := by decide +kernel
theorem dX11_robin_1 : decode cX11_robin 1 = .ok (.istore_n 2, 1) := by decide +kernel
theorem dX11_robin_2 : decode cX11_robin 2 = .ok (.iload_n 1, 1) := by decide +kernel
theorem dX11_robin_3 : decode cX11_robin 3 = .ok (.istore_n 3, 1) := by decide +kernel
theorem dX11_robin_4 : decode cX11_robin 4 = .ok (.aload_n 0, 1) := by decide +kernel
theorem dX11_robin_5 : decode cX11_robin 5 = .ok (.iload_n 3, 1) := by decide +kernel
theorem dX11_robin_6 : decode cX11_robin 6 = .ok (.invokevirtual 153, 3) := by decide +kernel
theorem dX11_robin_9 : decode cX11_robin 9 = .ok (.istore 4, 2) := by decide +kernel
theorem dX11_robin_11 : decode cX11_robin 11 = .ok (.iload 4, 2) := by decide +kernel
theorem dX11_robin_13 : decode cX11_robin 13 = .ok (.iconst (-1), 1) := by decide +kernel
theorem dX11_robin_14 : decode cX11_robin 14 = .ok (.if_icmp .eq 37, 3) := by decide +kernel
theorem dX11_robin_17 : decode cX11_robin 17 = .ok (.aload_n 0, 1) := by decide +kernel
theorem dX11_robin_18 : decode cX11_robin 18 = .ok (.getfield 13, 3) := by decide +kernel
theorem dX11_robin_21 : decode cX11_robin 21 = .ok (.iconst 2, 1) := by decide +kernel
theorem dX11_robin_22 : decode cX11_robin 22 = .ok (.iload 4, 2) := by decide +kernel
theorem dX11_robin_24 : decode cX11_robin 24 = .ok (.iadd, 1) := by decide +kernel
theorem dX11_robin_25 : decode cX11_robin 25 = .ok (.iload_n 3, 1) := by decide +kernel
theorem dX11_robin_26 : decode cX11_robin 26 = .ok (.iastore, 1) := by decide +kernel
theorem dX11_robin_27 : decode cX11_robin 27 = .ok (.iinc 2 1, 3) := by decide +kernel
theorem dX11_robin_30 : decode cX11_robin 30 = .ok (.iload_n 3, 1) := by decide +kernel
theorem dX11_robin_31 : decode cX11_robin 31 = .ok (.iconst 1, 1) := by decide +kernel
theorem dX11_robin_32 : decode cX11_robin 32 = .ok (.iadd, 1) := by decide +kernel
theorem dX11_robin_33 : decode cX11_robin 33 = .ok (.aload_n 0, 1) := by decide +kernel
theorem dX11_robin_34 : decode cX11_robin 34 = .ok (.getfield 13, 3) := by decide +kernel
theorem dX11_robin_37 : decode cX11_robin 37 = .ok (.iconst 1, 1) := by decide +kernel
theorem dX11_robin_38 : decode cX11_robin 38 = .ok (.iaload, 1) := by decide +kernel
theorem dX11_robin_39 : decode cX11_robin 39 = .ok (.irem, 1) := by decide +kernel
theorem dX11_robin_40 : decode cX11_robin 40 = .ok (.istore_n 3, 1) := by decide +kernel
theorem dX11_robin_41 : decode cX11_robin 41 = .ok (.aload_n 0, 1) := by decide +kernel
theorem dX11_robin_42 : decode cX11_robin 42 = .ok (.iload_n 3, 1) := by decide +kernel
theorem dX11_robin_43 : decode cX11_robin 43 = .ok (.invokevirtual 153, 3) := by decide +kernel
theorem dX11_robin_46 : decode cX11_robin 46 = .ok (.istore 4, 2) := by decide +kernel
theorem dX11_robin_48 : decode cX11_robin 48 = .ok (.goto (-37), 3) := by decide +kernel
theorem dX11_robin_51 : decode cX11_robin 51 = .ok (.iload_n 2, 1) := by decide +kernel
theorem dX11_robin_52 : decode cX11_robin 52 = .ok (.ireturn, 1) := by decide +kernel
set_option maxRecDepth 20000 in
theorem ggX11_exchange_X11_ownerOf : GoodIn wsX11_exchange wsX11_ownerOf := goodIn_r _ [6, 1, 7, 8, 9, 10, 11, 12, 13, 14, 15, 16, 17, 18, 19, 20, 21, 22, 23, 24, 25, 26] (by decide +kernel) (by decide +kernel)
set_option maxRecDepth 20000 in
theorem gX11_exchange_X11_ownerOf : GoodIn wsX11_exchange (wsV RX11 113 RX11 yX11_ownerOf wsX11_ownerOf) := goodIn_app (goodIn_of _ (by decide +kernel)) ggX11_exchange_X11_ownerOf
theorem dX11_exchange_0 : decode cX11_exchange 0 = .ok (.iconst 0, 1) := by decide +kernel
theorem dX11_exchange_1 : decode cX11_exchange 1 = .ok (.istore_n 3, 1) := by decide +kernel
theorem dX11_exchange_2 : decode cX11_exchange 2 = .ok (.iload_n 3, 1) := by decide +kernel
theorem dX11_exchange_3 : decode cX11_exchange 3 = .ok (.aload_n 0, 1) := by decide +kernel
theorem dX11_exchange_4 : decode cX11_exchange 4 = .ok (.getfield 13, 3) := by decide +kernel
theorem dX11_exchange_7 : decode cX11_exchange 7 = .ok (.iconst 0, 1) := by decide +kernel
theorem dX11_exchange_8 : decode cX11_exchange 8 = .ok (.iaload, 1) := by decide +kernel
theorem dX11_exchange_9 : decode cX11_exchange 9 = .ok (.if_icmp .ge 46, 3) := by decide +kernel
theorem dX11_exchange_12 : decode cX11_exchange 12 = .ok (.aload_n 0, 1) := by decide +kernel
theorem dX11_exchange_13 : decode cX11_exchange 13 = .ok (.iload_n 3, 1) := by decide +kernel
theorem dX11_exchange_14 : decode cX11_exchange 14 = .ok (.invokevirtual 113, 3) := by decide +kernel
theorem dX11_exchange_17 : decode cX11_exchange 17 = .ok (.istore 4, 2) := by decide +kernel
theorem dX11_exchange_19 : decode cX11_exchange 19 = .ok (.iload 4, 2) := by decide +kernel
theorem dX11_exchange_21 : decode cX11_exchange 21 = .ok (.iload_n 1, 1) := by decide +kernel
theorem dX11_exchange_22 : decode cX11_exchange 22 = .ok (.if_icmp .ne 12, 3) := by decide +kernel
theorem dX11_exchange_25 : decode cX11_exchange 25 = .ok (.aload_n 0, 1) := by decide +kernel
theorem dX11_exchange_26 : decode cX11_exchange 26 = .ok (.getfield 13, 3) := by decide +kernel
theorem dX11_exchange_29 : decode cX11_exchange 29 = .ok (.iconst 2, 1) := by decide +kernel
theorem dX11_exchange_30 : decode cX11_exchange 30 = .ok (.iload_n 3, 1) := by decide +kernel
theorem dX11_exchange_31 : decode cX11_exchange 31 = .ok (.iadd, 1) := by decide +kernel
theorem dX11_exchange_32 : decode cX11_exchange 32 = .ok (.iload_n 2, 1) := by decide +kernel
theorem dX11_exchange_33 : decode cX11_exchange 33 = .ok (.iastore, 1) := by decide +kernel
theorem dX11_exchange_34 : decode cX11_exchange 34 = .ok (.iload 4, 2) := by decide +kernel
theorem dX11_exchange_36 : decode cX11_exchange 36 = .ok (.iload_n 2, 1) := by decide +kernel
theorem dX11_exchange_37 : decode cX11_exchange 37 = .ok (.if_icmp .ne 12, 3) := by decide +kernel
theorem dX11_exchange_40 : decode cX11_exchange 40 = .ok (.aload_n 0, 1) := by decide +kernel
theorem dX11_exchange_41 : decode cX11_exchange 41 = .ok (.getfield 13, 3) := by decide +kernel
theorem dX11_exchange_44 : decode cX11_exchange 44 = .ok (.iconst 2, 1) := by decide +kernel
theorem dX11_exchange_45 : decode cX11_exchange 45 = .ok (.iload_n 3, 1) := by decide +kernel
theorem dX11_exchange_46 : decode cX11_exchange 46 = .ok (.iadd, 1) := by decide +kernel
theorem dX11_exchange_47 : decode cX11_exchange 47 = .ok (.iload_n 1, 1) := by decide +kernel
theorem dX11_exchange_48 : decode cX11_exchange 48 = .ok (.iastore, 1) := by decide +kernel
theorem dX11_exchange_49 : decode cX11_exchange 49 = .ok (.iinc 3 1, 3) := by decide +kernel
theorem dX11_exchange_52 : decode cX11_exchange 52 = .ok (.goto (-50), 3) := by decide +kernel
theorem dX11_exchange_55 : decode cX11_exchange 55 = .ok (.return_, 1) := by decide +kernel
set_option maxRecDepth 20000 in
theorem ggX11_turnCycle_X11_findCycle : GoodIn wsX11_turnCycle wsX11_findCycle := goodIn_r _ [7, 8, 2, 9, 10, 11, 6, 12, 1, 13, 14, 15, 16, 17, 18, 19, 20, 21, 22, 23, 24, 25, 26, 27, 28, 29, 30, 31, 32, 33, 34, 35, 36, 37, 38, 39, 40, 41, 42, 43, 44, 45, 46, 47, 48, 49, 50, 51, 52] (by decide +kernel) (by decide +kernel)
set_option maxRecDepth 20000 in
theorem gX11_turnCycle_X11_findCycle : GoodIn wsX11_turnCycle (wsV RX11 156 RX11 yX11_findCycle wsX11_findCycle) := goodIn_app (goodIn_of _ (by decide +kernel)) ggX11_turnCycle_X11_findCycle
set_option maxRecDepth 20000 in
theorem ggX11_turnCycle_X11_ownerOf : GoodIn wsX11_turnCycle wsX11_ownerOf := goodIn_r _ [24, 1, 33, 34, 35, 36, 37, 38, 39, 40, 41, 42, 43, 44, 45, 46, 47, 48, 49, 50, 51, 52] (by decide +kernel) (by decide +kernel)
set_option maxRecDepth 20000 in
theorem gX11_turnCycle_X11_ownerOf : GoodIn wsX11_turnCycle (wsV RX11 113 RX11 yX11_ownerOf wsX11_ownerOf) := goodIn_app (goodIn_of _ (by decide +kernel)) ggX11_turnCycle_X11_ownerOf
theorem dX11_turnCycle_0 : decode cX11_turnCycle 0 = .ok (.aload_n 0, 1) := by decide +kernel
theorem dX11_turnCycle_1 : decode cX11_turnCycle 1 = .ok (.iload_n 1, 1) := by decide +kernel
theorem dX11_turnCycle_2 : decode cX11_turnCycle 2 = .ok (.invokevirtual 156, 3) := by decide +kernel
theorem dX11_turnCycle_5 : decode cX11_turnCycle 5 = .ok (.istore_n 2, 1) := by decide +kernel
theorem dX11_turnCycle_6 : decode cX11_turnCycle 6 = .ok (.iconst 0, 1) := by decide +kernel
theorem dX11_turnCycle_7 : decode cX11_turnCycle 7 = .ok (.istore_n 3, 1) := by decide +kernel
theorem dX11_turnCycle_8 : decode cX11_turnCycle 8 = .ok (.iload_n 3, 1) := by decide +kernel
theorem dX11_turnCycle_9 : decode cX11_turnCycle 9 = .ok (.aload_n 0, 1) := by decide +kernel
theorem dX11_turnCycle_10 : decode cX11_turnCycle 10 = .ok (.getfield 13, 3) := by decide +kernel
theorem dX11_turnCycle_13 : decode cX11_turnCycle 13 = .ok (.iconst 0, 1) := by decide +kernel
theorem dX11_turnCycle_14 : decode cX11_turnCycle 14 = .ok (.iaload, 1) := by decide +kernel
theorem dX11_turnCycle_15 : decode cX11_turnCycle 15 = .ok (.if_icmp .ge 64, 3) := by decide +kernel
theorem dX11_turnCycle_18 : decode cX11_turnCycle 18 = .ok (.aload_n 0, 1) := by decide +kernel
theorem dX11_turnCycle_19 : decode cX11_turnCycle 19 = .ok (.iload_n 3, 1) := by decide +kernel
theorem dX11_turnCycle_20 : decode cX11_turnCycle 20 = .ok (.invokevirtual 113, 3) := by decide +kernel
theorem dX11_turnCycle_23 : decode cX11_turnCycle 23 = .ok (.istore 4, 2) := by decide +kernel
theorem dX11_turnCycle_25 : decode cX11_turnCycle 25 = .ok (.iconst 0, 1) := by decide +kernel
theorem dX11_turnCycle_26 : decode cX11_turnCycle 26 = .ok (.istore 5, 2) := by decide +kernel
theorem dX11_turnCycle_28 : decode cX11_turnCycle 28 = .ok (.iload 5, 2) := by decide +kernel
theorem dX11_turnCycle_30 : decode cX11_turnCycle 30 = .ok (.iload_n 2, 1) := by decide +kernel
theorem dX11_turnCycle_31 : decode cX11_turnCycle 31 = .ok (.if_icmp .ge 42, 3) := by decide +kernel
theorem dX11_turnCycle_34 : decode cX11_turnCycle 34 = .ok (.aload_n 0, 1) := by decide +kernel
theorem dX11_turnCycle_35 : decode cX11_turnCycle 35 = .ok (.getfield 45, 3) := by decide +kernel
theorem dX11_turnCycle_38 : decode cX11_turnCycle 38 = .ok (.iload 5, 2) := by decide +kernel
theorem dX11_turnCycle_40 : decode cX11_turnCycle 40 = .ok (.iaload, 1) := by decide +kernel
theorem dX11_turnCycle_41 : decode cX11_turnCycle 41 = .ok (.iload 4, 2) := by decide +kernel
theorem dX11_turnCycle_43 : decode cX11_turnCycle 43 = .ok (.if_icmp .ne 24, 3) := by decide +kernel
theorem dX11_turnCycle_46 : decode cX11_turnCycle 46 = .ok (.aload_n 0, 1) := by decide +kernel
theorem dX11_turnCycle_47 : decode cX11_turnCycle 47 = .ok (.getfield 13, 3) := by decide +kernel
theorem dX11_turnCycle_50 : decode cX11_turnCycle 50 = .ok (.iconst 2, 1) := by decide +kernel
theorem dX11_turnCycle_51 : decode cX11_turnCycle 51 = .ok (.iload_n 3, 1) := by decide +kernel
theorem dX11_turnCycle_52 : decode cX11_turnCycle 52 = .ok (.iadd, 1) := by decide +kernel
theorem dX11_turnCycle_53 : decode cX11_turnCycle 53 = .ok (.aload_n 0, 1) := by decide +kernel
theorem dX11_turnCycle_54 : decode cX11_turnCycle 54 = .ok (.getfield 45, 3) := by decide +kernel
theorem dX11_turnCycle_57 : decode cX11_turnCycle 57 = .ok (.iload 5, 2) := by decide +kernel
theorem dX11_turnCycle_59 : decode cX11_turnCycle 59 = .ok (.iload_n 2, 1) := by decide +kernel
theorem dX11_turnCycle_60 : decode cX11_turnCycle 60 = .ok (.iadd, 1) := by decide +kernel
theorem dX11_turnCycle_61 : decode cX11_turnCycle 61 = .ok (.iconst 1, 1) := by decide +kernel
theorem dX11_turnCycle_62 : decode cX11_turnCycle 62 = .ok (.isub, 1) := by decide +kernel
theorem dX11_turnCycle_63 : decode cX11_turnCycle 63 = .ok (.iload_n 2, 1) := by decide +kernel
theorem dX11_turnCycle_64 : decode cX11_turnCycle 64 = .ok (.irem, 1) := by decide +kernel
theorem dX11_turnCycle_65 : decode cX11_turnCycle 65 = .ok (.iaload, 1) := by decide +kernel
theorem dX11_turnCycle_66 : decode cX11_turnCycle 66 = .ok (.iastore, 1) := by decide +kernel
theorem dX11_turnCycle_67 : decode cX11_turnCycle 67 = .ok (.iinc 5 1, 3) := by decide +kernel
theorem dX11_turnCycle_70 : decode cX11_turnCycle 70 = .ok (.goto (-42), 3) := by decide +kernel
theorem dX11_turnCycle_73 : decode cX11_turnCycle 73 = .ok (.iinc 3 1, 3) := by decide +kernel
theorem dX11_turnCycle_76 : decode cX11_turnCycle 76 = .ok (.goto (-68), 3) := by decide +kernel
theorem dX11_turnCycle_79 : decode cX11_turnCycle 79 = .ok (.iload_n 2, 1) := by decide +kernel
theorem dX11_turnCycle_80 : decode cX11_turnCycle 80 = .ok (.ireturn, 1) := by decide +kernel
set_option maxRecDepth 20000 in
theorem ggX11_least_X11_welfareOf : GoodIn wsX11_least wsX11_welfareOf := goodIn_r _ [6, 7, 8, 9, 5, 10, 1, 11, 12, 13, 14, 15, 16, 17, 18, 19, 20, 21, 22, 23, 24, 25, 26, 27, 28, 29, 30, 31, 32, 33, 34, 35, 36, 37, 38] (by decide +kernel) (by decide +kernel)
set_option maxRecDepth 20000 in
theorem gX11_least_X11_welfareOf : GoodIn wsX11_least (wsV RX11 120 RX11 yX11_welfareOf wsX11_welfareOf) := goodIn_app (goodIn_of _ (by decide +kernel)) ggX11_least_X11_welfareOf
theorem dX11_least_0 : decode cX11_least 0 = .ok (.aload_n 0, 1) := by decide +kernel
theorem dX11_least_1 : decode cX11_least 1 = .ok (.iconst 0, 1) := by decide +kernel
theorem dX11_least_2 : decode cX11_least 2 = .ok (.invokevirtual 120, 3) := by decide +kernel
theorem dX11_least_5 : decode cX11_least 5 = .ok (.istore_n 1, 1) := by decide +kernel
theorem dX11_least_6 : decode cX11_least 6 = .ok (.iconst 1, 1) := by decide +kernel
theorem dX11_least_7 : decode cX11_least 7 = .ok (.istore_n 2, 1) := by decide +kernel
theorem dX11_least_8 : decode cX11_least 8 = .ok (.iload_n 2, 1) := by decide +kernel
theorem dX11_least_9 : decode cX11_least 9 = .ok (.aload_n 0, 1) := by decide +kernel
theorem dX11_least_10 : decode cX11_least 10 = .ok (.getfield 13, 3) := by decide +kernel
theorem dX11_least_13 : decode cX11_least 13 = .ok (.iconst 1, 1) := by decide +kernel
theorem dX11_least_14 : decode cX11_least 14 = .ok (.iaload, 1) := by decide +kernel
theorem dX11_least_15 : decode cX11_least 15 = .ok (.if_icmp .ge 28, 3) := by decide +kernel
theorem dX11_least_18 : decode cX11_least 18 = .ok (.aload_n 0, 1) := by decide +kernel
theorem dX11_least_19 : decode cX11_least 19 = .ok (.iload_n 2, 1) := by decide +kernel
theorem dX11_least_20 : decode cX11_least 20 = .ok (.invokevirtual 120, 3) := by decide +kernel
theorem dX11_least_23 : decode cX11_least 23 = .ok (.iload_n 1, 1) := by decide +kernel
theorem dX11_least_24 : decode cX11_least 24 = .ok (.if_icmp .ge 11, 3) := by decide +kernel
theorem dX11_least_27 : decode cX11_least 27 = .ok (.aload_n 0, 1) := by decide +kernel
theorem dX11_least_28 : decode cX11_least 28 = .ok (.iload_n 2, 1) := by decide +kernel
theorem dX11_least_29 : decode cX11_least 29 = .ok (.invokevirtual 120, 3) := by decide +kernel
theorem dX11_least_32 : decode cX11_least 32 = .ok (.goto 4, 3) := by decide +kernel
theorem dX11_least_35 : decode cX11_least 35 = .ok (.iload_n 1, 1) := by decide +kernel
theorem dX11_least_36 : decode cX11_least 36 = .ok (.istore_n 1, 1) := by decide +kernel
theorem dX11_least_37 : decode cX11_least 37 = .ok (.iinc 2 1, 3) := by decide +kernel
theorem dX11_least_40 : decode cX11_least 40 = .ok (.goto (-32), 3) := by decide +kernel
theorem dX11_least_43 : decode cX11_least 43 = .ok (.iload_n 1, 1) := by decide +kernel
theorem dX11_least_44 : decode cX11_least 44 = .ok (.ireturn, 1) := by decide +kernel
set_option maxRecDepth 20000 in
theorem ggX11_contiguousWelfare_X11_extend : GoodIn wsX11_contiguousWelfare wsX11_extend := goodIn_r _ [7, 1, 2, 8, 9, 10, 6, 11, 12, 13, 14, 15, 16, 17, 18, 19, 20, 21, 22, 23, 24, 25, 26, 27, 28, 29, 30, 31] (by decide +kernel) (by decide +kernel)
set_option maxRecDepth 20000 in
theorem gX11_contiguousWelfare_X11_extend : GoodIn wsX11_contiguousWelfare (wsV RX11 159 RX11 yX11_extend wsX11_extend) := goodIn_app (goodIn_of _ (by decide +kernel)) ggX11_contiguousWelfare_X11_extend
theorem dX11_contiguousWelfare_0 : decode cX11_contiguousWelfare 0 = .ok (.iconst 1, 1) := by decide +kernel
theorem dX11_contiguousWelfare_1 : decode cX11_contiguousWelfare 1 = .ok (.aload_n 0, 1) := by decide +kernel
theorem dX11_contiguousWelfare_2 : decode cX11_contiguousWelfare 2 = .ok (.getfield 13, 3) := by decide +kernel
theorem dX11_contiguousWelfare_5 : decode cX11_contiguousWelfare 5 = .ok (.iconst 1, 1) := by decide +kernel
theorem dX11_contiguousWelfare_6 : decode cX11_contiguousWelfare 6 = .ok (.iaload, 1) := by decide +kernel
theorem dX11_contiguousWelfare_7 : decode cX11_contiguousWelfare 7 = .ok (.ishl, 1) := by decide +kernel
theorem dX11_contiguousWelfare_8 : decode cX11_contiguousWelfare 8 = .ok (.istore_n 1, 1) := by decide +kernel
theorem dX11_contiguousWelfare_9 : decode cX11_contiguousWelfare 9 = .ok (.iconst 0, 1) := by decide +kernel
theorem dX11_contiguousWelfare_10 : decode cX11_contiguousWelfare 10 = .ok (.istore_n 2, 1) := by decide +kernel
theorem dX11_contiguousWelfare_11 : decode cX11_contiguousWelfare 11 = .ok (.iload_n 2, 1) := by decide +kernel
theorem dX11_contiguousWelfare_12 : decode cX11_contiguousWelfare 12 = .ok (.iload_n 1, 1) := by decide +kernel
theorem dX11_contiguousWelfare_13 : decode cX11_contiguousWelfare 13 = .ok (.if_icmp .ge 91, 3) := by decide +kernel
theorem dX11_contiguousWelfare_16 : decode cX11_contiguousWelfare 16 = .ok (.iconst 0, 1) := by decide +kernel
theorem dX11_contiguousWelfare_17 : decode cX11_contiguousWelfare 17 = .ok (.istore_n 3, 1) := by decide +kernel
theorem dX11_contiguousWelfare_18 : decode cX11_contiguousWelfare 18 = .ok (.iload_n 3, 1) := by decide +kernel
theorem dX11_contiguousWelfare_19 : decode cX11_contiguousWelfare 19 = .ok (.aload_n 0, 1) := by decide +kernel
theorem dX11_contiguousWelfare_20 : decode cX11_contiguousWelfare 20 = .ok (.getfield 13, 3) := by decide +kernel
theorem dX11_contiguousWelfare_23 : decode cX11_contiguousWelfare 23 = .ok (.iconst 0, 1) := by decide +kernel
theorem dX11_contiguousWelfare_24 : decode cX11_contiguousWelfare 24 = .ok (.iaload, 1) := by decide +kernel
theorem dX11_contiguousWelfare_25 : decode cX11_contiguousWelfare 25 = .ok (.if_icmp .gt 33, 3) := by decide +kernel
theorem dX11_contiguousWelfare_28 : decode cX11_contiguousWelfare 28 = .ok (.aload_n 0, 1) := by decide +kernel
theorem dX11_contiguousWelfare_29 : decode cX11_contiguousWelfare 29 = .ok (.getfield 51, 3) := by decide +kernel
theorem dX11_contiguousWelfare_32 : decode cX11_contiguousWelfare 32 = .ok (.iload_n 2, 1) := by decide +kernel
theorem dX11_contiguousWelfare_33 : decode cX11_contiguousWelfare 33 = .ok (.bipush 25, 2) := by decide +kernel
theorem dX11_contiguousWelfare_35 : decode cX11_contiguousWelfare 35 = .ok (.imul, 1) := by decide +kernel
theorem dX11_contiguousWelfare_36 : decode cX11_contiguousWelfare 36 = .ok (.iload_n 3, 1) := by decide +kernel
theorem dX11_contiguousWelfare_37 : decode cX11_contiguousWelfare 37 = .ok (.iadd, 1) := by decide +kernel
theorem dX11_contiguousWelfare_38 : decode cX11_contiguousWelfare 38 = .ok (.iload_n 2, 1) := by decide +kernel
theorem dX11_contiguousWelfare_39 : decode cX11_contiguousWelfare 39 = .ok (.ifCond .ne 11, 3) := by decide +kernel
theorem dX11_contiguousWelfare_42 : decode cX11_contiguousWelfare 42 = .ok (.iload_n 3, 1) := by decide +kernel
theorem dX11_contiguousWelfare_43 : decode cX11_contiguousWelfare 43 = .ok (.ifCond .le 7, 3) := by decide +kernel
theorem dX11_contiguousWelfare_46 : decode cX11_contiguousWelfare 46 = .ok (.iconst (-1), 1) := by decide +kernel
theorem dX11_contiguousWelfare_47 : decode cX11_contiguousWelfare 47 = .ok (.goto 4, 3) := by decide +kernel
theorem dX11_contiguousWelfare_50 : decode cX11_contiguousWelfare 50 = .ok (.iconst 0, 1) := by decide +kernel
theorem dX11_contiguousWelfare_51 : decode cX11_contiguousWelfare 51 = .ok (.iastore, 1) := by decide +kernel
theorem dX11_contiguousWelfare_52 : decode cX11_contiguousWelfare 52 = .ok (.iinc 3 1, 3) := by decide +kernel
theorem dX11_contiguousWelfare_55 : decode cX11_contiguousWelfare 55 = .ok (.goto (-37), 3) := by decide +kernel
theorem dX11_contiguousWelfare_58 : decode cX11_contiguousWelfare 58 = .ok (.iconst 0, 1) := by decide +kernel
theorem dX11_contiguousWelfare_59 : decode cX11_contiguousWelfare 59 = .ok (.istore_n 3, 1) := by decide +kernel
theorem dX11_contiguousWelfare_60 : decode cX11_contiguousWelfare 60 = .ok (.iload_n 3, 1) := by decide +kernel
theorem dX11_contiguousWelfare_61 : decode cX11_contiguousWelfare 61 = .ok (.aload_n 0, 1) := by decide +kernel
theorem dX11_contiguousWelfare_62 : decode cX11_contiguousWelfare 62 = .ok (.getfield 13, 3) := by decide +kernel
theorem dX11_contiguousWelfare_65 : decode cX11_contiguousWelfare 65 = .ok (.iconst 1, 1) := by decide +kernel
theorem dX11_contiguousWelfare_66 : decode cX11_contiguousWelfare 66 = .ok (.iaload, 1) := by decide +kernel
theorem dX11_contiguousWelfare_67 : decode cX11_contiguousWelfare 67 = .ok (.if_icmp .ge 31, 3) := by decide +kernel
theorem dX11_contiguousWelfare_70 : decode cX11_contiguousWelfare 70 = .ok (.iload_n 2, 1) := by decide +kernel
theorem dX11_contiguousWelfare_71 : decode cX11_contiguousWelfare 71 = .ok (.iload_n 3, 1) := by decide +kernel
theorem dX11_contiguousWelfare_72 : decode cX11_contiguousWelfare 72 = .ok (.ishr, 1) := by decide +kernel
theorem dX11_contiguousWelfare_73 : decode cX11_contiguousWelfare 73 = .ok (.iconst 1, 1) := by decide +kernel
theorem dX11_contiguousWelfare_74 : decode cX11_contiguousWelfare 74 = .ok (.iand, 1) := by decide +kernel
theorem dX11_contiguousWelfare_75 : decode cX11_contiguousWelfare 75 = .ok (.iconst 1, 1) := by decide +kernel
theorem dX11_contiguousWelfare_76 : decode cX11_contiguousWelfare 76 = .ok (.if_icmp .ne 16, 3) := by decide +kernel
theorem dX11_contiguousWelfare_79 : decode cX11_contiguousWelfare 79 = .ok (.aload_n 0, 1) := by decide +kernel
theorem dX11_contiguousWelfare_80 : decode cX11_contiguousWelfare 80 = .ok (.iload_n 2, 1) := by decide +kernel
theorem dX11_contiguousWelfare_81 : decode cX11_contiguousWelfare 81 = .ok (.iload_n 2, 1) := by decide +kernel
theorem dX11_contiguousWelfare_82 : decode cX11_contiguousWelfare 82 = .ok (.iconst 1, 1) := by decide +kernel
theorem dX11_contiguousWelfare_83 : decode cX11_contiguousWelfare 83 = .ok (.iload_n 3, 1) := by decide +kernel
theorem dX11_contiguousWelfare_84 : decode cX11_contiguousWelfare 84 = .ok (.ishl, 1) := by decide +kernel
theorem dX11_contiguousWelfare_85 : decode cX11_contiguousWelfare 85 = .ok (.iconst (-1), 1) := by decide +kernel
theorem dX11_contiguousWelfare_86 : decode cX11_contiguousWelfare 86 = .ok (.ixor, 1) := by decide +kernel
theorem dX11_contiguousWelfare_87 : decode cX11_contiguousWelfare 87 = .ok (.iand, 1) := by decide +kernel
theorem dX11_contiguousWelfare_88 : decode cX11_contiguousWelfare 88 = .ok (.iload_n 3, 1) := by decide +kernel
theorem dX11_contiguousWelfare_89 : decode cX11_contiguousWelfare 89 = .ok (.invokevirtual 159, 3) := by decide +kernel
theorem dX11_contiguousWelfare_92 : decode cX11_contiguousWelfare 92 = .ok (.iinc 3 1, 3) := by decide +kernel
theorem dX11_contiguousWelfare_95 : decode cX11_contiguousWelfare 95 = .ok (.goto (-35), 3) := by decide +kernel
theorem dX11_contiguousWelfare_98 : decode cX11_contiguousWelfare 98 = .ok (.iinc 2 1, 3) := by decide +kernel
theorem dX11_contiguousWelfare_101 : decode cX11_contiguousWelfare 101 = .ok (.goto (-90), 3) := by decide +kernel
theorem dX11_contiguousWelfare_104 : decode cX11_contiguousWelfare 104 = .ok (.aload_n 0, 1) := by decide +kernel
theorem dX11_contiguousWelfare_105 : decode cX11_contiguousWelfare 105 = .ok (.getfield 51, 3) := by decide +kernel
theorem dX11_contiguousWelfare_108 : decode cX11_contiguousWelfare 108 = .ok (.iload_n 1, 1) := by decide +kernel
theorem dX11_contiguousWelfare_109 : decode cX11_contiguousWelfare 109 = .ok (.iconst 1, 1) := by decide +kernel
theorem dX11_contiguousWelfare_110 : decode cX11_contiguousWelfare 110 = .ok (.isub, 1) := by decide +kernel
theorem dX11_contiguousWelfare_111 : decode cX11_contiguousWelfare 111 = .ok (.bipush 25, 2) := by decide +kernel
theorem dX11_contiguousWelfare_113 : decode cX11_contiguousWelfare 113 = .ok (.imul, 1) := by decide +kernel
theorem dX11_contiguousWelfare_114 : decode cX11_contiguousWelfare 114 = .ok (.aload_n 0, 1) := by decide +kernel
theorem dX11_contiguousWelfare_115 : decode cX11_contiguousWelfare 115 = .ok (.getfield 13, 3) := by decide +kernel
theorem dX11_contiguousWelfare_118 : decode cX11_contiguousWelfare 118 = .ok (.iconst 0, 1) := by decide +kernel
theorem dX11_contiguousWelfare_119 : decode cX11_contiguousWelfare 119 = .ok (.iaload, 1) := by decide +kernel
theorem dX11_contiguousWelfare_120 : decode cX11_contiguousWelfare 120 = .ok (.iadd, 1) := by decide +kernel
theorem dX11_contiguousWelfare_121 : decode cX11_contiguousWelfare 121 = .ok (.iaload, 1) := by decide +kernel
theorem dX11_contiguousWelfare_122 : decode cX11_contiguousWelfare 122 = .ok (.ireturn, 1) := by decide +kernel
set_option maxRecDepth 20000 in
theorem ggX11_extend_X11_valueOf : GoodIn wsX11_extend wsX11_valueOf := goodIn_r _ [7, 1, 8, 9, 10, 11, 12, 13, 14, 15, 16, 17, 18, 19, 20, 21, 22, 23, 24, 25, 26, 27] (by decide +kernel) (by decide +kernel)
set_option maxRecDepth 20000 in
theorem gX11_extend_X11_valueOf : GoodIn wsX11_extend (wsV RX11 105 RX11 yX11_valueOf wsX11_valueOf) := goodIn_app (goodIn_of _ (by decide +kernel)) ggX11_extend_X11_valueOf
theorem dX11_extend_0 : decode cX11_extend 0 = .ok (.iconst 0, 1) := by decide +kernel
theorem dX11_extend_1 : decode cX11_extend 1 = .ok (.istore 4, 2) := by decide +kernel
theorem dX11_extend_3 : decode cX11_extend 3 = .ok (.iload 4, 2) := by decide +kernel
theorem dX11_extend_5 : decode cX11_extend 5 = .ok (.aload_n 0, 1) := by decide +kernel
theorem dX11_extend_6 : decode cX11_extend 6 = .ok (.getfield 13, 3) := by decide +kernel
theorem dX11_extend_9 : decode cX11_extend 9 = .ok (.iconst 0, 1) := by decide +kernel
theorem dX11_extend_10 : decode cX11_extend 10 = .ok (.iaload, 1) := by decide +kernel
theorem dX11_extend_11 : decode cX11_extend 11 = .ok (.if_icmp .gt 113, 3) := by decide +kernel
theorem dX11_extend_14 : decode cX11_extend 14 = .ok (.aload_n 0, 1) := by decide +kernel
theorem dX11_extend_15 : decode cX11_extend 15 = .ok (.getfield 51, 3) := by decide +kernel
theorem dX11_extend_18 : decode cX11_extend 18 = .ok (.iload_n 2, 1) := by decide +kernel
theorem dX11_extend_19 : decode cX11_extend 19 = .ok (.bipush 25, 2) := by decide +kernel
theorem dX11_extend_21 : decode cX11_extend 21 = .ok (.imul, 1) := by decide +kernel
theorem dX11_extend_22 : decode cX11_extend 22 = .ok (.iload 4, 2) := by decide +kernel
theorem dX11_extend_24 : decode cX11_extend 24 = .ok (.iadd, 1) := by decide +kernel
theorem dX11_extend_25 : decode cX11_extend 25 = .ok (.iaload, 1) := by decide +kernel
theorem dX11_extend_26 : decode cX11_extend 26 = .ok (.istore 5, 2) := by decide +kernel
theorem dX11_extend_28 : decode cX11_extend 28 = .ok (.iload 5, 2) := by decide +kernel
theorem dX11_extend_30 : decode cX11_extend 30 = .ok (.iconst (-1), 1) := by decide +kernel
theorem dX11_extend_31 : decode cX11_extend 31 = .ok (.if_icmp .ne 6, 3) := by decide +kernel
theorem dX11_extend_34 : decode cX11_extend 34 = .ok (.goto 84, 3) := by decide +kernel
theorem dX11_extend_37 : decode cX11_extend 37 = .ok (.iconst 0, 1) := by decide +kernel
theorem dX11_extend_38 : decode cX11_extend 38 = .ok (.istore 6, 2) := by decide +kernel
theorem dX11_extend_40 : decode cX11_extend 40 = .ok (.iload 4, 2) := by decide +kernel
theorem dX11_extend_42 : decode cX11_extend 42 = .ok (.istore 7, 2) := by decide +kernel
theorem dX11_extend_44 : decode cX11_extend 44 = .ok (.iload 7, 2) := by decide +kernel
theorem dX11_extend_46 : decode cX11_extend 46 = .ok (.aload_n 0, 1) := by decide +kernel
theorem dX11_extend_47 : decode cX11_extend 47 = .ok (.getfield 13, 3) := by decide +kernel
theorem dX11_extend_50 : decode cX11_extend 50 = .ok (.iconst 0, 1) := by decide +kernel
theorem dX11_extend_51 : decode cX11_extend 51 = .ok (.iaload, 1) := by decide +kernel
theorem dX11_extend_52 : decode cX11_extend 52 = .ok (.if_icmp .gt 66, 3) := by decide +kernel
theorem dX11_extend_55 : decode cX11_extend 55 = .ok (.iload 7, 2) := by decide +kernel
theorem dX11_extend_57 : decode cX11_extend 57 = .ok (.iload 4, 2) := by decide +kernel
theorem dX11_extend_59 : decode cX11_extend 59 = .ok (.if_icmp .le 17, 3) := by decide +kernel
theorem dX11_extend_62 : decode cX11_extend 62 = .ok (.iload 6, 2) := by decide +kernel
theorem dX11_extend_64 : decode cX11_extend 64 = .ok (.aload_n 0, 1) := by decide +kernel
theorem dX11_extend_65 : decode cX11_extend 65 = .ok (.iload_n 3, 1) := by decide +kernel
theorem dX11_extend_66 : decode cX11_extend 66 = .ok (.iload 7, 2) := by decide +kernel
theorem dX11_extend_68 : decode cX11_extend 68 = .ok (.iconst 1, 1) := by decide +kernel
theorem dX11_extend_69 : decode cX11_extend 69 = .ok (.isub, 1) := by decide +kernel
theorem dX11_extend_70 : decode cX11_extend 70 = .ok (.invokevirtual 105, 3) := by decide +kernel
theorem dX11_extend_73 : decode cX11_extend 73 = .ok (.iadd, 1) := by decide +kernel
theorem dX11_extend_74 : decode cX11_extend 74 = .ok (.istore 6, 2) := by decide +kernel
theorem dX11_extend_76 : decode cX11_extend 76 = .ok (.iload_n 1, 1) := by decide +kernel
theorem dX11_extend_77 : decode cX11_extend 77 = .ok (.bipush 25, 2) := by decide +kernel
theorem dX11_extend_79 : decode cX11_extend 79 = .ok (.imul, 1) := by decide +kernel
theorem dX11_extend_80 : decode cX11_extend 80 = .ok (.iload 7, 2) := by decide +kernel
theorem dX11_extend_82 : decode cX11_extend 82 = .ok (.iadd, 1) := by decide +kernel
theorem dX11_extend_83 : decode cX11_extend 83 = .ok (.istore 8, 2) := by decide +kernel
theorem dX11_extend_85 : decode cX11_extend 85 = .ok (.iload 5, 2) := by decide +kernel
theorem dX11_extend_87 : decode cX11_extend 87 = .ok (.iload 6, 2) := by decide +kernel
theorem dX11_extend_89 : decode cX11_extend 89 = .ok (.iadd, 1) := by decide +kernel
theorem dX11_extend_90 : decode cX11_extend 90 = .ok (.aload_n 0, 1) := by decide +kernel
theorem dX11_extend_91 : decode cX11_extend 91 = .ok (.getfield 51, 3) := by decide +kernel
theorem dX11_extend_94 : decode cX11_extend 94 = .ok (.iload 8, 2) := by decide +kernel
theorem dX11_extend_96 : decode cX11_extend 96 = .ok (.iaload, 1) := by decide +kernel
theorem dX11_extend_97 : decode cX11_extend 97 = .ok (.if_icmp .le 15, 3) := by decide +kernel
theorem dX11_extend_100 : decode cX11_extend 100 = .ok (.aload_n 0, 1) := by decide +kernel
theorem dX11_extend_101 : decode cX11_extend 101 = .ok (.getfield 51, 3) := by decide +kernel
theorem dX11_extend_104 : decode cX11_extend 104 = .ok (.iload 8, 2) := by decide +kernel
theorem dX11_extend_106 : decode cX11_extend 106 = .ok (.iload 5, 2) := by decide +kernel
theorem dX11_extend_108 : decode cX11_extend 108 = .ok (.iload 6, 2) := by decide +kernel
theorem dX11_extend_110 : decode cX11_extend 110 = .ok (.iadd, 1) := by decide +kernel
theorem dX11_extend_111 : decode cX11_extend 111 = .ok (.iastore, 1) := by decide +kernel
theorem dX11_extend_112 : decode cX11_extend 112 = .ok (.iinc 7 1, 3) := by decide +kernel
theorem dX11_extend_115 : decode cX11_extend 115 = .ok (.goto (-71), 3) := by decide +kernel
theorem dX11_extend_118 : decode cX11_extend 118 = .ok (.iinc 4 1, 3) := by decide +kernel
theorem dX11_extend_121 : decode cX11_extend 121 = .ok (.goto (-118), 3) := by decide +kernel
theorem dX11_extend_124 : decode cX11_extend 124 = .ok (.return_, 1) := by decide +kernel
set_option maxRecDepth 20000 in
theorem ggX11_reaches_X11_valueOf : GoodIn wsX11_reaches wsX11_valueOf := goodIn_r _ [7, 1, 8, 9, 10, 11, 12, 13, 14, 15, 16, 17, 18, 19, 20, 21, 22, 23, 24, 25, 26, 27] (by decide +kernel) (by decide +kernel)
set_option maxRecDepth 20000 in
theorem gX11_reaches_X11_valueOf : GoodIn wsX11_reaches (wsV RX11 105 RX11 yX11_valueOf wsX11_valueOf) := goodIn_app (goodIn_of _ (by decide +kernel)) ggX11_reaches_X11_valueOf
theorem dX11_reaches_0 : decode cX11_reaches 0 = .ok (.iconst 0, 1) := by decide +kernel
theorem dX11_reaches_1 : decode cX11_reaches 1 = .ok (.istore_n 2, 1) := by decide +kernel
theorem dX11_reaches_2 : decode cX11_reaches 2 = .ok (.iconst 0, 1) := by decide +kernel
theorem dX11_reaches_3 : decode cX11_reaches 3 = .ok (.istore_n 3, 1) := by decide +kernel
theorem dX11_reaches_4 : decode cX11_reaches 4 = .ok (.iload_n 3, 1) := by decide +kernel
theorem dX11_reaches_5 : decode cX11_reaches 5 = .ok (.aload_n 0, 1) := by decide +kernel
theorem dX11_reaches_6 : decode cX11_reaches 6 = .ok (.getfield 13, 3) := by decide +kernel
theorem dX11_reaches_9 : decode cX11_reaches 9 = .ok (.iconst 1, 1) := by decide +kernel
theorem dX11_reaches_10 : decode cX11_reaches 10 = .ok (.iaload, 1) := by decide +kernel
theorem dX11_reaches_11 : decode cX11_reaches 11 = .ok (.if_icmp .ge 58, 3) := by decide +kernel
theorem dX11_reaches_14 : decode cX11_reaches 14 = .ok (.iconst 0, 1) := by decide +kernel
theorem dX11_reaches_15 : decode cX11_reaches 15 = .ok (.istore 4, 2) := by decide +kernel
theorem dX11_reaches_17 : decode cX11_reaches 17 = .ok (.iload 4, 2) := by decide +kernel
theorem dX11_reaches_19 : decode cX11_reaches 19 = .ok (.iload_n 1, 1) := by decide +kernel
theorem dX11_reaches_20 : decode cX11_reaches 20 = .ok (.if_icmp .ge 35, 3) := by decide +kernel
theorem dX11_reaches_23 : decode cX11_reaches 23 = .ok (.iload_n 2, 1) := by decide +kernel
theorem dX11_reaches_24 : decode cX11_reaches 24 = .ok (.aload_n 0, 1) := by decide +kernel
theorem dX11_reaches_25 : decode cX11_reaches 25 = .ok (.getfield 13, 3) := by decide +kernel
theorem dX11_reaches_28 : decode cX11_reaches 28 = .ok (.iconst 0, 1) := by decide +kernel
theorem dX11_reaches_29 : decode cX11_reaches 29 = .ok (.iaload, 1) := by decide +kernel
theorem dX11_reaches_30 : decode cX11_reaches 30 = .ok (.if_icmp .ge 25, 3) := by decide +kernel
theorem dX11_reaches_33 : decode cX11_reaches 33 = .ok (.iload 4, 2) := by decide +kernel
theorem dX11_reaches_35 : decode cX11_reaches 35 = .ok (.aload_n 0, 1) := by decide +kernel
theorem dX11_reaches_36 : decode cX11_reaches 36 = .ok (.aload_n 0, 1) := by decide +kernel
theorem dX11_reaches_37 : decode cX11_reaches 37 = .ok (.getfield 54, 3) := by decide +kernel
theorem dX11_reaches_40 : decode cX11_reaches 40 = .ok (.iload_n 3, 1) := by decide +kernel
theorem dX11_reaches_41 : decode cX11_reaches 41 = .ok (.iaload, 1) := by decide +kernel
theorem dX11_reaches_42 : decode cX11_reaches 42 = .ok (.iload_n 2, 1) := by decide +kernel
theorem dX11_reaches_43 : decode cX11_reaches 43 = .ok (.invokevirtual 105, 3) := by decide +kernel
theorem dX11_reaches_46 : decode cX11_reaches 46 = .ok (.iadd, 1) := by decide +kernel
theorem dX11_reaches_47 : decode cX11_reaches 47 = .ok (.istore 4, 2) := by decide +kernel
theorem dX11_reaches_49 : decode cX11_reaches 49 = .ok (.iinc 2 1, 3) := by decide +kernel
theorem dX11_reaches_52 : decode cX11_reaches 52 = .ok (.goto (-35), 3) := by decide +kernel
theorem dX11_reaches_55 : decode cX11_reaches 55 = .ok (.iload 4, 2) := by decide +kernel
theorem dX11_reaches_57 : decode cX11_reaches 57 = .ok (.iload_n 1, 1) := by decide +kernel
theorem dX11_reaches_58 : decode cX11_reaches 58 = .ok (.if_icmp .ge 5, 3) := by decide +kernel
theorem dX11_reaches_61 : decode cX11_reaches 61 = .ok (.iconst 0, 1) := by decide +kernel
theorem dX11_reaches_62 : decode cX11_reaches 62 = .ok (.ireturn, 1) := by decide +kernel
theorem dX11_reaches_63 : decode cX11_reaches 63 = .ok (.iinc 3 1, 3) := by decide +kernel
theorem dX11_reaches_66 : decode cX11_reaches 66 = .ok (.goto (-62), 3) := by decide +kernel
theorem dX11_reaches_69 : decode cX11_reaches 69 = .ok (.iconst 1, 1) := by decide +kernel
theorem dX11_reaches_70 : decode cX11_reaches 70 = .ok (.ireturn, 1) := by decide +kernel
set_option maxRecDepth 20000 in
theorem ggX11_advanceSequence_X11_swapSequence : GoodIn wsX11_advanceSequence wsX11_swapSequence := goodIn_r _ [7, 2, 8, 9, 10, 11, 12, 13, 14, 15, 16, 17, 18, 19, 20, 21, 22, 23, 24, 25, 26, 27] (by decide +kernel) (by decide +kernel)
set_option maxRecDepth 20000 in
theorem gX11_advanceSequence_X11_swapSequence : GoodIn wsX11_advanceSequence (wsV RX11 162 RX11 yX11_swapSequence wsX11_swapSequence) := goodIn_app (goodIn_of _ (by decide +kernel)) ggX11_advanceSequence_X11_swapSequence
theorem dX11_advanceSequence_0 : decode cX11_advanceSequence 0 = .ok (.aload_n 0, 1) := by decide +kernel
theorem dX11_advanceSequence_1 : decode cX11_advanceSequence 1 = .ok (.getfield 13, 3) := by decide +kernel
theorem dX11_advanceSequence_4 : decode cX11_advanceSequence 4 = .ok (.iconst 1, 1) := by decide +kernel
theorem dX11_advanceSequence_5 : decode cX11_advanceSequence 5 = .ok (.iaload, 1) := by decide +kernel
theorem dX11_advanceSequence_6 : decode cX11_advanceSequence 6 = .ok (.iconst 2, 1) := by decide +kernel
theorem dX11_advanceSequence_7 : decode cX11_advanceSequence 7 = .ok (.isub, 1) := by decide +kernel
theorem dX11_advanceSequence_8 : decode cX11_advanceSequence 8 = .ok (.istore_n 1, 1) := by decide +kernel
theorem dX11_advanceSequence_9 : decode cX11_advanceSequence 9 = .ok (.iload_n 1, 1) := by decide +kernel
theorem dX11_advanceSequence_10 : decode cX11_advanceSequence 10 = .ok (.ifCond .lt 26, 3) := by decide +kernel
theorem dX11_advanceSequence_13 : decode cX11_advanceSequence 13 = .ok (.aload_n 0, 1) := by decide +kernel
theorem dX11_advanceSequence_14 : decode cX11_advanceSequence 14 = .ok (.getfield 54, 3) := by decide +kernel
theorem dX11_advanceSequence_17 : decode cX11_advanceSequence 17 = .ok (.iload_n 1, 1) := by decide +kernel
theorem dX11_advanceSequence_18 : decode cX11_advanceSequence 18 = .ok (.iaload, 1) := by decide +kernel
theorem dX11_advanceSequence_19 : decode cX11_advanceSequence 19 = .ok (.aload_n 0, 1) := by decide +kernel
theorem dX11_advanceSequence_20 : decode cX11_advanceSequence 20 = .ok (.getfield 54, 3) := by decide +kernel
theorem dX11_advanceSequence_23 : decode cX11_advanceSequence 23 = .ok (.iload_n 1, 1) := by decide +kernel
theorem dX11_advanceSequence_24 : decode cX11_advanceSequence 24 = .ok (.iconst 1, 1) := by decide +kernel
theorem dX11_advanceSequence_25 : decode cX11_advanceSequence 25 = .ok (.iadd, 1) := by decide +kernel
theorem dX11_advanceSequence_26 : decode cX11_advanceSequence 26 = .ok (.iaload, 1) := by decide +kernel
theorem dX11_advanceSequence_27 : decode cX11_advanceSequence 27 = .ok (.if_icmp .le 9, 3) := by decide +kernel
theorem dX11_advanceSequence_30 : decode cX11_advanceSequence 30 = .ok (.iinc 1 (-1), 3) := by decide +kernel
theorem dX11_advanceSequence_33 : decode cX11_advanceSequence 33 = .ok (.goto (-24), 3) := by decide +kernel
theorem dX11_advanceSequence_36 : decode cX11_advanceSequence 36 = .ok (.iload_n 1, 1) := by decide +kernel
theorem dX11_advanceSequence_37 : decode cX11_advanceSequence 37 = .ok (.ifCond .ge 5, 3) := by decide +kernel
theorem dX11_advanceSequence_40 : decode cX11_advanceSequence 40 = .ok (.iconst 0, 1) := by decide +kernel
theorem dX11_advanceSequence_41 : decode cX11_advanceSequence 41 = .ok (.ireturn, 1) := by decide +kernel
theorem dX11_advanceSequence_42 : decode cX11_advanceSequence 42 = .ok (.aload_n 0, 1) := by decide +kernel
theorem dX11_advanceSequence_43 : decode cX11_advanceSequence 43 = .ok (.getfield 13, 3) := by decide +kernel
theorem dX11_advanceSequence_46 : decode cX11_advanceSequence 46 = .ok (.iconst 1, 1) := by decide +kernel
theorem dX11_advanceSequence_47 : decode cX11_advanceSequence 47 = .ok (.iaload, 1) := by decide +kernel
theorem dX11_advanceSequence_48 : decode cX11_advanceSequence 48 = .ok (.iconst 1, 1) := by decide +kernel
theorem dX11_advanceSequence_49 : decode cX11_advanceSequence 49 = .ok (.isub, 1) := by decide +kernel
theorem dX11_advanceSequence_50 : decode cX11_advanceSequence 50 = .ok (.istore_n 2, 1) := by decide +kernel
theorem dX11_advanceSequence_51 : decode cX11_advanceSequence 51 = .ok (.aload_n 0, 1) := by decide +kernel
theorem dX11_advanceSequence_52 : decode cX11_advanceSequence 52 = .ok (.getfield 54, 3) := by decide +kernel
theorem dX11_advanceSequence_55 : decode cX11_advanceSequence 55 = .ok (.iload_n 2, 1) := by decide +kernel
theorem dX11_advanceSequence_56 : decode cX11_advanceSequence 56 = .ok (.iaload, 1) := by decide +kernel
theorem dX11_advanceSequence_57 : decode cX11_advanceSequence 57 = .ok (.aload_n 0, 1) := by decide +kernel
theorem dX11_advanceSequence_58 : decode cX11_advanceSequence 58 = .ok (.getfield 54, 3) := by decide +kernel
theorem dX11_advanceSequence_61 : decode cX11_advanceSequence 61 = .ok (.iload_n 1, 1) := by decide +kernel
theorem dX11_advanceSequence_62 : decode cX11_advanceSequence 62 = .ok (.iaload, 1) := by decide +kernel
theorem dX11_advanceSequence_63 : decode cX11_advanceSequence 63 = .ok (.if_icmp .ge 9, 3) := by decide +kernel
theorem dX11_advanceSequence_66 : decode cX11_advanceSequence 66 = .ok (.iinc 2 (-1), 3) := by decide +kernel
theorem dX11_advanceSequence_69 : decode cX11_advanceSequence 69 = .ok (.goto (-18), 3) := by decide +kernel
theorem dX11_advanceSequence_72 : decode cX11_advanceSequence 72 = .ok (.aload_n 0, 1) := by decide +kernel
theorem dX11_advanceSequence_73 : decode cX11_advanceSequence 73 = .ok (.iload_n 1, 1) := by decide +kernel
theorem dX11_advanceSequence_74 : decode cX11_advanceSequence 74 = .ok (.iload_n 2, 1) := by decide +kernel
theorem dX11_advanceSequence_75 : decode cX11_advanceSequence 75 = .ok (.invokevirtual 162, 3) := by decide +kernel
theorem dX11_advanceSequence_78 : decode cX11_advanceSequence 78 = .ok (.iload_n 1, 1) := by decide +kernel
theorem dX11_advanceSequence_79 : decode cX11_advanceSequence 79 = .ok (.iconst 1, 1) := by decide +kernel
theorem dX11_advanceSequence_80 : decode cX11_advanceSequence 80 = .ok (.iadd, 1) := by decide +kernel
theorem dX11_advanceSequence_81 : decode cX11_advanceSequence 81 = .ok (.istore_n 3, 1) := by decide +kernel
theorem dX11_advanceSequence_82 : decode cX11_advanceSequence 82 = .ok (.aload_n 0, 1) := by decide +kernel
theorem dX11_advanceSequence_83 : decode cX11_advanceSequence 83 = .ok (.getfield 13, 3) := by decide +kernel
theorem dX11_advanceSequence_86 : decode cX11_advanceSequence 86 = .ok (.iconst 1, 1) := by decide +kernel
theorem dX11_advanceSequence_87 : decode cX11_advanceSequence 87 = .ok (.iaload, 1) := by decide +kernel
theorem dX11_advanceSequence_88 : decode cX11_advanceSequence 88 = .ok (.iconst 1, 1) := by decide +kernel
theorem dX11_advanceSequence_89 : decode cX11_advanceSequence 89 = .ok (.isub, 1) := by decide +kernel
theorem dX11_advanceSequence_90 : decode cX11_advanceSequence 90 = .ok (.istore 4, 2) := by decide +kernel
theorem dX11_advanceSequence_92 : decode cX11_advanceSequence 92 = .ok (.iload_n 3, 1) := by decide +kernel
theorem dX11_advanceSequence_93 : decode cX11_advanceSequence 93 = .ok (.iload 4, 2) := by decide +kernel
theorem dX11_advanceSequence_95 : decode cX11_advanceSequence 95 = .ok (.if_icmp .ge 19, 3) := by decide +kernel
theorem dX11_advanceSequence_98 : decode cX11_advanceSequence 98 = .ok (.aload_n 0, 1) := by decide +kernel
theorem dX11_advanceSequence_99 : decode cX11_advanceSequence 99 = .ok (.iload_n 3, 1) := by decide +kernel
theorem dX11_advanceSequence_100 : decode cX11_advanceSequence 100 = .ok (.iload 4, 2) := by decide +kernel
theorem dX11_advanceSequence_102 : decode cX11_advanceSequence 102 = .ok (.invokevirtual 162, 3) := by decide +kernel
theorem dX11_advanceSequence_105 : decode cX11_advanceSequence 105 = .ok (.iinc 3 1, 3) := by decide +kernel
theorem dX11_advanceSequence_108 : decode cX11_advanceSequence 108 = .ok (.iinc 4 (-1), 3) := by decide +kernel
theorem dX11_advanceSequence_111 : decode cX11_advanceSequence 111 = .ok (.goto (-19), 3) := by decide +kernel
theorem dX11_advanceSequence_114 : decode cX11_advanceSequence 114 = .ok (.iconst 1, 1) := by decide +kernel
theorem dX11_advanceSequence_115 : decode cX11_advanceSequence 115 = .ok (.ireturn, 1) := by decide +kernel
theorem dX11_swapSequence_0 : decode cX11_swapSequence 0 = .ok (.aload_n 0, 1) := by decide +kernel
theorem dX11_swapSequence_1 : decode cX11_swapSequence 1 = .ok (.getfield 54, 3) := by decide +kernel
theorem dX11_swapSequence_4 : decode cX11_swapSequence 4 = .ok (.iload_n 1, 1) := by decide +kernel
theorem dX11_swapSequence_5 : decode cX11_swapSequence 5 = .ok (.iaload, 1) := by decide +kernel
theorem dX11_swapSequence_6 : decode cX11_swapSequence 6 = .ok (.istore_n 3, 1) := by decide +kernel
theorem dX11_swapSequence_7 : decode cX11_swapSequence 7 = .ok (.aload_n 0, 1) := by decide +kernel
theorem dX11_swapSequence_8 : decode cX11_swapSequence 8 = .ok (.getfield 54, 3) := by decide +kernel
theorem dX11_swapSequence_11 : decode cX11_swapSequence 11 = .ok (.iload_n 1, 1) := by decide +kernel
theorem dX11_swapSequence_12 : decode cX11_swapSequence 12 = .ok (.aload_n 0, 1) := by decide +kernel
theorem dX11_swapSequence_13 : decode cX11_swapSequence 13 = .ok (.getfield 54, 3) := by decide +kernel
theorem dX11_swapSequence_16 : decode cX11_swapSequence 16 = .ok (.iload_n 2, 1) := by decide +kernel
theorem dX11_swapSequence_17 : decode cX11_swapSequence 17 = .ok (.iaload, 1) := by decide +kernel
theorem dX11_swapSequence_18 : decode cX11_swapSequence 18 = .ok (.iastore, 1) := by decide +kernel
theorem dX11_swapSequence_19 : decode cX11_swapSequence 19 = .ok (.aload_n 0, 1) := by decide +kernel
theorem dX11_swapSequence_20 : decode cX11_swapSequence 20 = .ok (.getfield 54, 3) := by decide +kernel
theorem dX11_swapSequence_23 : decode cX11_swapSequence 23 = .ok (.iload_n 2, 1) := by decide +kernel
theorem dX11_swapSequence_24 : decode cX11_swapSequence 24 = .ok (.iload_n 3, 1) := by decide +kernel
theorem dX11_swapSequence_25 : decode cX11_swapSequence 25 = .ok (.iastore, 1) := by decide +kernel
theorem dX11_swapSequence_26 : decode cX11_swapSequence 26 = .ok (.return_, 1) := by decide +kernel
set_option maxRecDepth 20000 in
theorem ggX11_contiguousLeast_X11_reaches : GoodIn wsX11_contiguousLeast wsX11_reaches := goodIn_r _ [7, 1, 2, 8, 9, 10, 6, 11, 20, 21, 22, 23, 24, 25, 26, 27, 28, 29, 30, 31, 32, 33, 34, 35, 36, 37, 38, 39] (by decide +kernel) (by decide +kernel)
set_option maxRecDepth 20000 in
theorem gX11_contiguousLeast_X11_reaches : GoodIn wsX11_contiguousLeast (wsV RX11 165 RX11 yX11_reaches wsX11_reaches) := goodIn_app (goodIn_of _ (by decide +kernel)) ggX11_contiguousLeast_X11_reaches
set_option maxRecDepth 20000 in
theorem ggX11_contiguousLeast_X11_advanceSequence : GoodIn wsX11_contiguousLeast wsX11_advanceSequence := goodIn_r _ [15, 1, 2, 16, 17, 18, 6, 19, 20, 21, 22, 23, 24, 25, 26, 27, 28, 29, 30, 31, 32, 33, 34, 35, 36, 37, 38, 39] (by decide +kernel) (by decide +kernel)
set_option maxRecDepth 20000 in
theorem gX11_contiguousLeast_X11_advanceSequence : GoodIn wsX11_contiguousLeast (wsV RX11 168 RX11 yX11_advanceSequence wsX11_advanceSequence) := goodIn_app (goodIn_of _ (by decide +kernel)) ggX11_contiguousLeast_X11_advanceSequence
theorem dX11_contiguousLeast_0 : decode cX11_contiguousLeast 0 = .ok (.iconst 0, 1) := by decide +kernel
theorem dX11_contiguousLeast_1 : decode cX11_contiguousLeast 1 = .ok (.istore_n 1, 1) := by decide +kernel
theorem dX11_contiguousLeast_2 : decode cX11_contiguousLeast 2 = .ok (.iload_n 1, 1) := by decide +kernel
theorem dX11_contiguousLeast_3 : decode cX11_contiguousLeast 3 = .ok (.aload_n 0, 1) := by decide +kernel
theorem dX11_contiguousLeast_4 : decode cX11_contiguousLeast 4 = .ok (.getfield 13, 3) := by decide +kernel
theorem dX11_contiguousLeast_7 : decode cX11_contiguousLeast 7 = .ok (.iconst 1, 1) := by decide +kernel
theorem dX11_contiguousLeast_8 : decode cX11_contiguousLeast 8 = .ok (.iaload, 1) := by decide +kernel
theorem dX11_contiguousLeast_9 : decode cX11_contiguousLeast 9 = .ok (.if_icmp .ge 16, 3) := by decide +kernel
theorem dX11_contiguousLeast_12 : decode cX11_contiguousLeast 12 = .ok (.aload_n 0, 1) := by decide +kernel
theorem dX11_contiguousLeast_13 : decode cX11_contiguousLeast 13 = .ok (.getfield 54, 3) := by decide +kernel
theorem dX11_contiguousLeast_16 : decode cX11_contiguousLeast 16 = .ok (.iload_n 1, 1) := by decide +kernel
theorem dX11_contiguousLeast_17 : decode cX11_contiguousLeast 17 = .ok (.iload_n 1, 1) := by decide +kernel
theorem dX11_contiguousLeast_18 : decode cX11_contiguousLeast 18 = .ok (.iastore, 1) := by decide +kernel
theorem dX11_contiguousLeast_19 : decode cX11_contiguousLeast 19 = .ok (.iinc 1 1, 3) := by decide +kernel
theorem dX11_contiguousLeast_22 : decode cX11_contiguousLeast 22 = .ok (.goto (-20), 3) := by decide +kernel
theorem dX11_contiguousLeast_25 : decode cX11_contiguousLeast 25 = .ok (.iconst 0, 1) := by decide +kernel
theorem dX11_contiguousLeast_26 : decode cX11_contiguousLeast 26 = .ok (.istore_n 1, 1) := by decide +kernel
theorem dX11_contiguousLeast_27 : decode cX11_contiguousLeast 27 = .ok (.iconst 1, 1) := by decide +kernel
theorem dX11_contiguousLeast_28 : decode cX11_contiguousLeast 28 = .ok (.istore_n 2, 1) := by decide +kernel
theorem dX11_contiguousLeast_29 : decode cX11_contiguousLeast 29 = .ok (.iload_n 2, 1) := by decide +kernel
theorem dX11_contiguousLeast_30 : decode cX11_contiguousLeast 30 = .ok (.ifCond .eq 27, 3) := by decide +kernel
theorem dX11_contiguousLeast_33 : decode cX11_contiguousLeast 33 = .ok (.aload_n 0, 1) := by decide +kernel
theorem dX11_contiguousLeast_34 : decode cX11_contiguousLeast 34 = .ok (.iload_n 1, 1) := by decide +kernel
theorem dX11_contiguousLeast_35 : decode cX11_contiguousLeast 35 = .ok (.iconst 1, 1) := by decide +kernel
theorem dX11_contiguousLeast_36 : decode cX11_contiguousLeast 36 = .ok (.iadd, 1) := by decide +kernel
theorem dX11_contiguousLeast_37 : decode cX11_contiguousLeast 37 = .ok (.invokevirtual 165, 3) := by decide +kernel
theorem dX11_contiguousLeast_40 : decode cX11_contiguousLeast 40 = .ok (.ifCond .eq 9, 3) := by decide +kernel
theorem dX11_contiguousLeast_43 : decode cX11_contiguousLeast 43 = .ok (.iinc 1 1, 3) := by decide +kernel
theorem dX11_contiguousLeast_46 : decode cX11_contiguousLeast 46 = .ok (.goto (-13), 3) := by decide +kernel
theorem dX11_contiguousLeast_49 : decode cX11_contiguousLeast 49 = .ok (.aload_n 0, 1) := by decide +kernel
theorem dX11_contiguousLeast_50 : decode cX11_contiguousLeast 50 = .ok (.invokevirtual 168, 3) := by decide +kernel
theorem dX11_contiguousLeast_53 : decode cX11_contiguousLeast 53 = .ok (.istore_n 2, 1) := by decide +kernel
theorem dX11_contiguousLeast_54 : decode cX11_contiguousLeast 54 = .ok (.goto (-25), 3) := by decide +kernel
theorem dX11_contiguousLeast_57 : decode cX11_contiguousLeast 57 = .ok (.iload_n 1, 1) := by decide +kernel
theorem dX11_contiguousLeast_58 : decode cX11_contiguousLeast 58 = .ok (.ireturn, 1) := by decide +kernel
theorem dX11_appendWord_0 : decode cX11_appendWord 0 = .ok (.bipush 24, 2) := by decide +kernel
theorem dX11_appendWord_2 : decode cX11_appendWord 2 = .ok (.istore_n 2, 1) := by decide +kernel
theorem dX11_appendWord_3 : decode cX11_appendWord 3 = .ok (.iload_n 2, 1) := by decide +kernel
theorem dX11_appendWord_4 : decode cX11_appendWord 4 = .ok (.ifCond .lt 35, 3) := by decide +kernel
theorem dX11_appendWord_7 : decode cX11_appendWord 7 = .ok (.aload_n 0, 1) := by decide +kernel
theorem dX11_appendWord_8 : decode cX11_appendWord 8 = .ok (.getfield 24, 3) := by decide +kernel
theorem dX11_appendWord_11 : decode cX11_appendWord 11 = .ok (.aload_n 0, 1) := by decide +kernel
theorem dX11_appendWord_12 : decode cX11_appendWord 12 = .ok (.getfield 27, 3) := by decide +kernel
theorem dX11_appendWord_15 : decode cX11_appendWord 15 = .ok (.iload_n 1, 1) := by decide +kernel
theorem dX11_appendWord_16 : decode cX11_appendWord 16 = .ok (.iload_n 2, 1) := by decide +kernel
theorem dX11_appendWord_17 : decode cX11_appendWord 17 = .ok (.ishr, 1) := by decide +kernel
theorem dX11_appendWord_18 : decode cX11_appendWord 18 = .ok (.sipush 255, 3) := by decide +kernel
theorem dX11_appendWord_21 : decode cX11_appendWord 21 = .ok (.iand, 1) := by decide +kernel
theorem dX11_appendWord_22 : decode cX11_appendWord 22 = .ok (.iastore, 1) := by decide +kernel
theorem dX11_appendWord_23 : decode cX11_appendWord 23 = .ok (.aload_n 0, 1) := by decide +kernel
theorem dX11_appendWord_24 : decode cX11_appendWord 24 = .ok (.dup, 1) := by decide +kernel
theorem dX11_appendWord_25 : decode cX11_appendWord 25 = .ok (.getfield 27, 3) := by decide +kernel
theorem dX11_appendWord_28 : decode cX11_appendWord 28 = .ok (.iconst 1, 1) := by decide +kernel
theorem dX11_appendWord_29 : decode cX11_appendWord 29 = .ok (.iadd, 1) := by decide +kernel
theorem dX11_appendWord_30 : decode cX11_appendWord 30 = .ok (.putfield 27, 3) := by decide +kernel
theorem dX11_appendWord_33 : decode cX11_appendWord 33 = .ok (.iinc 2 (-8), 3) := by decide +kernel
theorem dX11_appendWord_36 : decode cX11_appendWord 36 = .ok (.goto (-33), 3) := by decide +kernel
theorem dX11_appendWord_39 : decode cX11_appendWord 39 = .ok (.return_, 1) := by decide +kernel
set_option maxRecDepth 20000 in
theorem ggX11_append_X11_fails : GoodIn wsX11_append wsX11_fails := goodIn_r _ [6, 7, 13, 14, 15, 16, 17, 18, 19, 20, 21, 22, 23, 24, 25, 26, 27, 28, 29, 30, 31, 32] (by decide +kernel) (by decide +kernel)
set_option maxRecDepth 20000 in
theorem gX11_append_X11_fails : GoodIn wsX11_append (wsV RX11 171 RX11 yX11_fails wsX11_fails) := goodIn_app (goodIn_of _ (by decide +kernel)) ggX11_append_X11_fails
set_option maxRecDepth 20000 in
theorem ggX11_append_X11_appendWord : GoodIn wsX11_append wsX11_appendWord := goodIn_r _ [11, 12, 1, 13, 14, 15, 16, 17, 18, 19, 20, 21, 22, 23, 24, 25, 26, 27, 28, 29, 30, 31, 32] (by decide +kernel) (by decide +kernel)
set_option maxRecDepth 20000 in
theorem gX11_append_X11_appendWord : GoodIn wsX11_append (wsV RX11 175 RX11 yX11_appendWord wsX11_appendWord) := goodIn_app (goodIn_of _ (by decide +kernel)) ggX11_append_X11_appendWord
theorem dX11_append_0 : decode cX11_append 0 = .ok (.aload_n 0, 1) := by decide +kernel
theorem dX11_append_1 : decode cX11_append 1 = .ok (.aload_n 0, 1) := by decide +kernel
theorem dX11_append_2 : decode cX11_append 2 = .ok (.getfield 27, 3) := by decide +kernel
theorem dX11_append_5 : decode cX11_append 5 = .ok (.bipush 20, 2) := by decide +kernel
theorem dX11_append_7 : decode cX11_append 7 = .ok (.iadd, 1) := by decide +kernel
theorem dX11_append_8 : decode cX11_append 8 = .ok (.sipush 600, 3) := by decide +kernel
theorem dX11_append_11 : decode cX11_append 11 = .ok (.if_icmp .le 7, 3) := by decide +kernel
theorem dX11_append_14 : decode cX11_append 14 = .ok (.iconst 1, 1) := by decide +kernel
theorem dX11_append_15 : decode cX11_append 15 = .ok (.goto 4, 3) := by decide +kernel
theorem dX11_append_18 : decode cX11_append 18 = .ok (.iconst 0, 1) := by decide +kernel
theorem dX11_append_19 : decode cX11_append 19 = .ok (.iconst 0, 1) := by decide +kernel
theorem dX11_append_20 : decode cX11_append 20 = .ok (.iconst 0, 1) := by decide +kernel
theorem dX11_append_21 : decode cX11_append 21 = .ok (.invokevirtual 171, 3) := by decide +kernel
theorem dX11_append_24 : decode cX11_append 24 = .ok (.ifCond .eq 5, 3) := by decide +kernel
theorem dX11_append_27 : decode cX11_append 27 = .ok (.iconst 0, 1) := by decide +kernel
theorem dX11_append_28 : decode cX11_append 28 = .ok (.ireturn, 1) := by decide +kernel
theorem dX11_append_29 : decode cX11_append 29 = .ok (.aload_n 0, 1) := by decide +kernel
theorem dX11_append_30 : decode cX11_append 30 = .ok (.iload_n 1, 1) := by decide +kernel
theorem dX11_append_31 : decode cX11_append 31 = .ok (.invokevirtual 175, 3) := by decide +kernel
theorem dX11_append_34 : decode cX11_append 34 = .ok (.aload_n 0, 1) := by decide +kernel
theorem dX11_append_35 : decode cX11_append 35 = .ok (.iload_n 2, 1) := by decide +kernel
theorem dX11_append_36 : decode cX11_append 36 = .ok (.invokevirtual 175, 3) := by decide +kernel
theorem dX11_append_39 : decode cX11_append 39 = .ok (.aload_n 0, 1) := by decide +kernel
theorem dX11_append_40 : decode cX11_append 40 = .ok (.iload_n 3, 1) := by decide +kernel
theorem dX11_append_41 : decode cX11_append 41 = .ok (.invokevirtual 175, 3) := by decide +kernel
theorem dX11_append_44 : decode cX11_append 44 = .ok (.aload_n 0, 1) := by decide +kernel
theorem dX11_append_45 : decode cX11_append 45 = .ok (.iload 4, 2) := by decide +kernel
theorem dX11_append_47 : decode cX11_append 47 = .ok (.invokevirtual 175, 3) := by decide +kernel
theorem dX11_append_50 : decode cX11_append 50 = .ok (.aload_n 0, 1) := by decide +kernel
theorem dX11_append_51 : decode cX11_append 51 = .ok (.iload 5, 2) := by decide +kernel
theorem dX11_append_53 : decode cX11_append 53 = .ok (.invokevirtual 175, 3) := by decide +kernel
theorem dX11_append_56 : decode cX11_append 56 = .ok (.aload_n 0, 1) := by decide +kernel
theorem dX11_append_57 : decode cX11_append 57 = .ok (.getfield 27, 3) := by decide +kernel
theorem dX11_append_60 : decode cX11_append 60 = .ok (.ireturn, 1) := by decide +kernel
set_option maxRecDepth 20000 in
theorem ggX11_truncate_X11_in : GoodIn wsX11_truncate wsX11_in := goodIn_r _ [5] (by decide +kernel) (by decide +kernel)
set_option maxRecDepth 20000 in
theorem gX11_truncate_X11_in : GoodIn wsX11_truncate (va_wsS RX11 90 yX11_in wsX11_in) := goodIn_app (goodIn_of _ (by decide +kernel)) ggX11_truncate_X11_in
set_option maxRecDepth 20000 in
theorem ggX11_truncate_X11_fails : GoodIn wsX11_truncate wsX11_fails := goodIn_r _ [9, 10, 11, 12, 13, 14, 15, 16, 17, 18, 19, 20, 21, 22, 23, 24, 25, 26, 27, 28, 29, 30] (by decide +kernel) (by decide +kernel)
set_option maxRecDepth 20000 in
theorem gX11_truncate_X11_fails : GoodIn wsX11_truncate (wsV RX11 171 RX11 yX11_fails wsX11_fails) := goodIn_app (goodIn_of _ (by decide +kernel)) ggX11_truncate_X11_fails
theorem dX11_truncate_0 : decode cX11_truncate 0 = .ok (.aload_n 0, 1) := by decide +kernel
theorem dX11_truncate_1 : decode cX11_truncate 1 = .ok (.iload_n 1, 1) := by decide +kernel
theorem dX11_truncate_2 : decode cX11_truncate 2 = .ok (.iconst 0, 1) := by decide +kernel
theorem dX11_truncate_3 : decode cX11_truncate 3 = .ok (.aload_n 0, 1) := by decide +kernel
theorem dX11_truncate_4 : decode cX11_truncate 4 = .ok (.getfield 27, 3) := by decide +kernel
theorem dX11_truncate_7 : decode cX11_truncate 7 = .ok (.invokestatic 90, 3) := by decide +kernel
theorem dX11_truncate_10 : decode cX11_truncate 10 = .ok (.ifCond .ne 7, 3) := by decide +kernel
theorem dX11_truncate_13 : decode cX11_truncate 13 = .ok (.iconst 1, 1) := by decide +kernel
theorem dX11_truncate_14 : decode cX11_truncate 14 = .ok (.goto 4, 3) := by decide +kernel
theorem dX11_truncate_17 : decode cX11_truncate 17 = .ok (.iconst 0, 1) := by decide +kernel
theorem dX11_truncate_18 : decode cX11_truncate 18 = .ok (.iconst 0, 1) := by decide +kernel
theorem dX11_truncate_19 : decode cX11_truncate 19 = .ok (.iconst 0, 1) := by decide +kernel
theorem dX11_truncate_20 : decode cX11_truncate 20 = .ok (.invokevirtual 171, 3) := by decide +kernel
theorem dX11_truncate_23 : decode cX11_truncate 23 = .ok (.ifCond .eq 5, 3) := by decide +kernel
theorem dX11_truncate_26 : decode cX11_truncate 26 = .ok (.iconst 0, 1) := by decide +kernel
theorem dX11_truncate_27 : decode cX11_truncate 27 = .ok (.ireturn, 1) := by decide +kernel
theorem dX11_truncate_28 : decode cX11_truncate 28 = .ok (.aload_n 0, 1) := by decide +kernel
theorem dX11_truncate_29 : decode cX11_truncate 29 = .ok (.iload_n 1, 1) := by decide +kernel
theorem dX11_truncate_30 : decode cX11_truncate 30 = .ok (.putfield 27, 3) := by decide +kernel
theorem dX11_truncate_33 : decode cX11_truncate 33 = .ok (.iload_n 1, 1) := by decide +kernel
theorem dX11_truncate_34 : decode cX11_truncate 34 = .ok (.ireturn, 1) := by decide +kernel
theorem dX11_isSmall_0 : decode cX11_isSmall 0 = .ok (.iload_n 0, 1) := by decide +kernel
theorem dX11_isSmall_1 : decode cX11_isSmall 1 = .ok (.bipush 97, 2) := by decide +kernel
theorem dX11_isSmall_3 : decode cX11_isSmall 3 = .ok (.if_icmp .lt 13, 3) := by decide +kernel
theorem dX11_isSmall_6 : decode cX11_isSmall 6 = .ok (.iload_n 0, 1) := by decide +kernel
theorem dX11_isSmall_7 : decode cX11_isSmall 7 = .ok (.bipush 122, 2) := by decide +kernel
theorem dX11_isSmall_9 : decode cX11_isSmall 9 = .ok (.if_icmp .gt 7, 3) := by decide +kernel
theorem dX11_isSmall_12 : decode cX11_isSmall 12 = .ok (.iconst 1, 1) := by decide +kernel
theorem dX11_isSmall_13 : decode cX11_isSmall 13 = .ok (.goto 4, 3) := by decide +kernel
theorem dX11_isSmall_16 : decode cX11_isSmall 16 = .ok (.iconst 0, 1) := by decide +kernel
theorem dX11_isSmall_17 : decode cX11_isSmall 17 = .ok (.ireturn, 1) := by decide +kernel
theorem dX11_isDigit_0 : decode cX11_isDigit 0 = .ok (.iload_n 0, 1) := by decide +kernel
theorem dX11_isDigit_1 : decode cX11_isDigit 1 = .ok (.bipush 48, 2) := by decide +kernel
theorem dX11_isDigit_3 : decode cX11_isDigit 3 = .ok (.if_icmp .lt 13, 3) := by decide +kernel
theorem dX11_isDigit_6 : decode cX11_isDigit 6 = .ok (.iload_n 0, 1) := by decide +kernel
theorem dX11_isDigit_7 : decode cX11_isDigit 7 = .ok (.bipush 57, 2) := by decide +kernel
theorem dX11_isDigit_9 : decode cX11_isDigit 9 = .ok (.if_icmp .gt 7, 3) := by decide +kernel
theorem dX11_isDigit_12 : decode cX11_isDigit 12 = .ok (.iconst 1, 1) := by decide +kernel
theorem dX11_isDigit_13 : decode cX11_isDigit 13 = .ok (.goto 4, 3) := by decide +kernel
theorem dX11_isDigit_16 : decode cX11_isDigit 16 = .ok (.iconst 0, 1) := by decide +kernel
theorem dX11_isDigit_17 : decode cX11_isDigit 17 = .ok (.ireturn, 1) := by decide +kernel
set_option maxRecDepth 20000 in
theorem ggX11_token_X11_isSmall : GoodIn wsX11_token wsX11_isSmall := goodIn_r _ [10] (by decide +kernel) (by decide +kernel)
set_option maxRecDepth 20000 in
theorem gX11_token_X11_isSmall : GoodIn wsX11_token (va_wsS RX11 178 yX11_isSmall wsX11_isSmall) := goodIn_app (goodIn_of _ (by decide +kernel)) ggX11_token_X11_isSmall
set_option maxRecDepth 20000 in
theorem ggX11_token_X11_isDigit : GoodIn wsX11_token wsX11_isDigit := goodIn_r _ [13] (by decide +kernel) (by decide +kernel)
set_option maxRecDepth 20000 in
theorem gX11_token_X11_isDigit : GoodIn wsX11_token (va_wsS RX11 181 yX11_isDigit wsX11_isDigit) := goodIn_app (goodIn_of _ (by decide +kernel)) ggX11_token_X11_isDigit
theorem dX11_token_0 : decode cX11_token 0 = .ok (.aload_n 0, 1) := by decide +kernel
theorem dX11_token_1 : decode cX11_token 1 = .ok (.getfield 57, 3) := by decide +kernel
theorem dX11_token_4 : decode cX11_token 4 = .ok (.aload_n 0, 1) := by decide +kernel
theorem dX11_token_5 : decode cX11_token 5 = .ok (.getfield 27, 3) := by decide +kernel
theorem dX11_token_8 : decode cX11_token 8 = .ok (.if_icmp .ge 44, 3) := by decide +kernel
theorem dX11_token_11 : decode cX11_token 11 = .ok (.aload_n 0, 1) := by decide +kernel
theorem dX11_token_12 : decode cX11_token 12 = .ok (.getfield 24, 3) := by decide +kernel
theorem dX11_token_15 : decode cX11_token 15 = .ok (.aload_n 0, 1) := by decide +kernel
theorem dX11_token_16 : decode cX11_token 16 = .ok (.getfield 57, 3) := by decide +kernel
theorem dX11_token_19 : decode cX11_token 19 = .ok (.iaload, 1) := by decide +kernel
theorem dX11_token_20 : decode cX11_token 20 = .ok (.bipush 32, 2) := by decide +kernel
theorem dX11_token_22 : decode cX11_token 22 = .ok (.if_icmp .eq 17, 3) := by decide +kernel
theorem dX11_token_25 : decode cX11_token 25 = .ok (.aload_n 0, 1) := by decide +kernel
theorem dX11_token_26 : decode cX11_token 26 = .ok (.getfield 24, 3) := by decide +kernel
theorem dX11_token_29 : decode cX11_token 29 = .ok (.aload_n 0, 1) := by decide +kernel
theorem dX11_token_30 : decode cX11_token 30 = .ok (.getfield 57, 3) := by decide +kernel
theorem dX11_token_33 : decode cX11_token 33 = .ok (.iaload, 1) := by decide +kernel
theorem dX11_token_34 : decode cX11_token 34 = .ok (.bipush 10, 2) := by decide +kernel
theorem dX11_token_36 : decode cX11_token 36 = .ok (.if_icmp .ne 16, 3) := by decide +kernel
theorem dX11_token_39 : decode cX11_token 39 = .ok (.aload_n 0, 1) := by decide +kernel
theorem dX11_token_40 : decode cX11_token 40 = .ok (.dup, 1) := by decide +kernel
theorem dX11_token_41 : decode cX11_token 41 = .ok (.getfield 57, 3) := by decide +kernel
theorem dX11_token_44 : decode cX11_token 44 = .ok (.iconst 1, 1) := by decide +kernel
theorem dX11_token_45 : decode cX11_token 45 = .ok (.iadd, 1) := by decide +kernel
theorem dX11_token_46 : decode cX11_token 46 = .ok (.putfield 57, 3) := by decide +kernel
theorem dX11_token_49 : decode cX11_token 49 = .ok (.goto (-49), 3) := by decide +kernel
theorem dX11_token_52 : decode cX11_token 52 = .ok (.aload_n 0, 1) := by decide +kernel
theorem dX11_token_53 : decode cX11_token 53 = .ok (.aload_n 0, 1) := by decide +kernel
theorem dX11_token_54 : decode cX11_token 54 = .ok (.getfield 57, 3) := by decide +kernel
theorem dX11_token_57 : decode cX11_token 57 = .ok (.putfield 63, 3) := by decide +kernel
theorem dX11_token_60 : decode cX11_token 60 = .ok (.aload_n 0, 1) := by decide +kernel
theorem dX11_token_61 : decode cX11_token 61 = .ok (.getfield 57, 3) := by decide +kernel
theorem dX11_token_64 : decode cX11_token 64 = .ok (.aload_n 0, 1) := by decide +kernel
theorem dX11_token_65 : decode cX11_token 65 = .ok (.getfield 27, 3) := by decide +kernel
theorem dX11_token_68 : decode cX11_token 68 = .ok (.if_icmp .ne 9, 3) := by decide +kernel
theorem dX11_token_71 : decode cX11_token 71 = .ok (.aload_n 0, 1) := by decide +kernel
theorem dX11_token_72 : decode cX11_token 72 = .ok (.iconst 0, 1) := by decide +kernel
theorem dX11_token_73 : decode cX11_token 73 = .ok (.putfield 60, 3) := by decide +kernel
theorem dX11_token_76 : decode cX11_token 76 = .ok (.return_, 1) := by decide +kernel
theorem dX11_token_77 : decode cX11_token 77 = .ok (.aload_n 0, 1) := by decide +kernel
theorem dX11_token_78 : decode cX11_token 78 = .ok (.getfield 24, 3) := by decide +kernel
theorem dX11_token_81 : decode cX11_token 81 = .ok (.aload_n 0, 1) := by decide +kernel
theorem dX11_token_82 : decode cX11_token 82 = .ok (.getfield 57, 3) := by decide +kernel
theorem dX11_token_85 : decode cX11_token 85 = .ok (.iaload, 1) := by decide +kernel
theorem dX11_token_86 : decode cX11_token 86 = .ok (.invokestatic 178, 3) := by decide +kernel
theorem dX11_token_89 : decode cX11_token 89 = .ok (.ifCond .eq 66, 3) := by decide +kernel
theorem dX11_token_92 : decode cX11_token 92 = .ok (.aload_n 0, 1) := by decide +kernel
theorem dX11_token_93 : decode cX11_token 93 = .ok (.getfield 57, 3) := by decide +kernel
theorem dX11_token_96 : decode cX11_token 96 = .ok (.aload_n 0, 1) := by decide +kernel
theorem dX11_token_97 : decode cX11_token 97 = .ok (.getfield 27, 3) := by decide +kernel
theorem dX11_token_100 : decode cX11_token 100 = .ok (.if_icmp .ge 31, 3) := by decide +kernel
theorem dX11_token_103 : decode cX11_token 103 = .ok (.aload_n 0, 1) := by decide +kernel
theorem dX11_token_104 : decode cX11_token 104 = .ok (.getfield 24, 3) := by decide +kernel
theorem dX11_token_107 : decode cX11_token 107 = .ok (.aload_n 0, 1) := by decide +kernel
theorem dX11_token_108 : decode cX11_token 108 = .ok (.getfield 57, 3) := by decide +kernel
theorem dX11_token_111 : decode cX11_token 111 = .ok (.iaload, 1) := by decide +kernel
theorem dX11_token_112 : decode cX11_token 112 = .ok (.invokestatic 178, 3) := by decide +kernel
theorem dX11_token_115 : decode cX11_token 115 = .ok (.ifCond .eq 16, 3) := by decide +kernel
theorem dX11_token_118 : decode cX11_token 118 = .ok (.aload_n 0, 1) := by decide +kernel
theorem dX11_token_119 : decode cX11_token 119 = .ok (.dup, 1) := by decide +kernel
theorem dX11_token_120 : decode cX11_token 120 = .ok (.getfield 57, 3) := by decide +kernel
theorem dX11_token_123 : decode cX11_token 123 = .ok (.iconst 1, 1) := by decide +kernel
theorem dX11_token_124 : decode cX11_token 124 = .ok (.iadd, 1) := by decide +kernel
theorem dX11_token_125 : decode cX11_token 125 = .ok (.putfield 57, 3) := by decide +kernel
theorem dX11_token_128 : decode cX11_token 128 = .ok (.goto (-36), 3) := by decide +kernel
theorem dX11_token_131 : decode cX11_token 131 = .ok (.aload_n 0, 1) := by decide +kernel
theorem dX11_token_132 : decode cX11_token 132 = .ok (.aload_n 0, 1) := by decide +kernel
theorem dX11_token_133 : decode cX11_token 133 = .ok (.getfield 57, 3) := by decide +kernel
theorem dX11_token_136 : decode cX11_token 136 = .ok (.aload_n 0, 1) := by decide +kernel
theorem dX11_token_137 : decode cX11_token 137 = .ok (.getfield 63, 3) := by decide +kernel
theorem dX11_token_140 : decode cX11_token 140 = .ok (.isub, 1) := by decide +kernel
theorem dX11_token_141 : decode cX11_token 141 = .ok (.bipush 8, 2) := by decide +kernel
theorem dX11_token_143 : decode cX11_token 143 = .ok (.if_icmp .le 7, 3) := by decide +kernel
theorem dX11_token_146 : decode cX11_token 146 = .ok (.iconst 4, 1) := by decide +kernel
theorem dX11_token_147 : decode cX11_token 147 = .ok (.goto 4, 3) := by decide +kernel
theorem dX11_token_150 : decode cX11_token 150 = .ok (.iconst 1, 1) := by decide +kernel
theorem dX11_token_151 : decode cX11_token 151 = .ok (.putfield 60, 3) := by decide +kernel
theorem dX11_token_154 : decode cX11_token 154 = .ok (.return_, 1) := by decide +kernel
theorem dX11_token_155 : decode cX11_token 155 = .ok (.aload_n 0, 1) := by decide +kernel
theorem dX11_token_156 : decode cX11_token 156 = .ok (.getfield 24, 3) := by decide +kernel
theorem dX11_token_159 : decode cX11_token 159 = .ok (.aload_n 0, 1) := by decide +kernel
theorem dX11_token_160 : decode cX11_token 160 = .ok (.getfield 57, 3) := by decide +kernel
theorem dX11_token_163 : decode cX11_token 163 = .ok (.iaload, 1) := by decide +kernel
theorem dX11_token_164 : decode cX11_token 164 = .ok (.invokestatic 181, 3) := by decide +kernel
theorem dX11_token_167 : decode cX11_token 167 = .ok (.ifCond .eq 107, 3) := by decide +kernel
theorem dX11_token_170 : decode cX11_token 170 = .ok (.aload_n 0, 1) := by decide +kernel
theorem dX11_token_171 : decode cX11_token 171 = .ok (.iconst 0, 1) := by decide +kernel
theorem dX11_token_172 : decode cX11_token 172 = .ok (.putfield 66, 3) := by decide +kernel
theorem dX11_token_175 : decode cX11_token 175 = .ok (.aload_n 0, 1) := by decide +kernel
theorem dX11_token_176 : decode cX11_token 176 = .ok (.getfield 57, 3) := by decide +kernel
theorem dX11_token_179 : decode cX11_token 179 = .ok (.aload_n 0, 1) := by decide +kernel
theorem dX11_token_180 : decode cX11_token 180 = .ok (.getfield 27, 3) := by decide +kernel
theorem dX11_token_183 : decode cX11_token 183 = .ok (.if_icmp .ge 68, 3) := by decide +kernel
theorem dX11_token_186 : decode cX11_token 186 = .ok (.aload_n 0, 1) := by decide +kernel
theorem dX11_token_187 : decode cX11_token 187 = .ok (.getfield 24, 3) := by decide +kernel
theorem dX11_token_190 : decode cX11_token 190 = .ok (.aload_n 0, 1) := by decide +kernel
theorem dX11_token_191 : decode cX11_token 191 = .ok (.getfield 57, 3) := by decide +kernel
theorem dX11_token_194 : decode cX11_token 194 = .ok (.iaload, 1) := by decide +kernel
theorem dX11_token_195 : decode cX11_token 195 = .ok (.invokestatic 181, 3) := by decide +kernel
theorem dX11_token_198 : decode cX11_token 198 = .ok (.ifCond .eq 53, 3) := by decide +kernel
theorem dX11_token_201 : decode cX11_token 201 = .ok (.aload_n 0, 1) := by decide +kernel
theorem dX11_token_202 : decode cX11_token 202 = .ok (.getfield 57, 3) := by decide +kernel
theorem dX11_token_205 : decode cX11_token 205 = .ok (.aload_n 0, 1) := by decide +kernel
theorem dX11_token_206 : decode cX11_token 206 = .ok (.getfield 63, 3) := by decide +kernel
theorem dX11_token_209 : decode cX11_token 209 = .ok (.isub, 1) := by decide +kernel
theorem dX11_token_210 : decode cX11_token 210 = .ok (.iconst 2, 1) := by decide +kernel
theorem dX11_token_211 : decode cX11_token 211 = .ok (.if_icmp .ge 27, 3) := by decide +kernel
theorem dX11_token_214 : decode cX11_token 214 = .ok (.aload_n 0, 1) := by decide +kernel
theorem dX11_token_215 : decode cX11_token 215 = .ok (.aload_n 0, 1) := by decide +kernel
theorem dX11_token_216 : decode cX11_token 216 = .ok (.getfield 66, 3) := by decide +kernel
theorem dX11_token_219 : decode cX11_token 219 = .ok (.bipush 10, 2) := by decide +kernel
theorem dX11_token_221 : decode cX11_token 221 = .ok (.imul, 1) := by decide +kernel
theorem dX11_token_222 : decode cX11_token 222 = .ok (.aload_n 0, 1) := by decide +kernel
theorem dX11_token_223 : decode cX11_token 223 = .ok (.getfield 24, 3) := by decide +kernel
theorem dX11_token_226 : decode cX11_token 226 = .ok (.aload_n 0, 1) := by decide +kernel
theorem dX11_token_227 : decode cX11_token 227 = .ok (.getfield 57, 3) := by decide +kernel
theorem dX11_token_230 : decode cX11_token 230 = .ok (.iaload, 1) := by decide +kernel
theorem dX11_token_231 : decode cX11_token 231 = .ok (.iadd, 1) := by decide +kernel
theorem dX11_token_232 : decode cX11_token 232 = .ok (.bipush 48, 2) := by decide +kernel
theorem dX11_token_234 : decode cX11_token 234 = .ok (.isub, 1) := by decide +kernel
theorem dX11_token_235 : decode cX11_token 235 = .ok (.putfield 66, 3) := by decide +kernel
theorem dX11_token_238 : decode cX11_token 238 = .ok (.aload_n 0, 1) := by decide +kernel
theorem dX11_token_239 : decode cX11_token 239 = .ok (.dup, 1) := by decide +kernel
theorem dX11_token_240 : decode cX11_token 240 = .ok (.getfield 57, 3) := by decide +kernel
theorem dX11_token_243 : decode cX11_token 243 = .ok (.iconst 1, 1) := by decide +kernel
theorem dX11_token_244 : decode cX11_token 244 = .ok (.iadd, 1) := by decide +kernel
theorem dX11_token_245 : decode cX11_token 245 = .ok (.putfield 57, 3) := by decide +kernel
theorem dX11_token_248 : decode cX11_token 248 = .ok (.goto (-73), 3) := by decide +kernel
theorem dX11_token_251 : decode cX11_token 251 = .ok (.aload_n 0, 1) := by decide +kernel
theorem dX11_token_252 : decode cX11_token 252 = .ok (.aload_n 0, 1) := by decide +kernel
theorem dX11_token_253 : decode cX11_token 253 = .ok (.getfield 57, 3) := by decide +kernel
theorem dX11_token_256 : decode cX11_token 256 = .ok (.aload_n 0, 1) := by decide +kernel
theorem dX11_token_257 : decode cX11_token 257 = .ok (.getfield 63, 3) := by decide +kernel
theorem dX11_token_260 : decode cX11_token 260 = .ok (.isub, 1) := by decide +kernel
theorem dX11_token_261 : decode cX11_token 261 = .ok (.iconst 2, 1) := by decide +kernel
theorem dX11_token_262 : decode cX11_token 262 = .ok (.if_icmp .le 7, 3) := by decide +kernel
theorem dX11_token_265 : decode cX11_token 265 = .ok (.iconst 4, 1) := by decide +kernel
theorem dX11_token_266 : decode cX11_token 266 = .ok (.goto 4, 3) := by decide +kernel
theorem dX11_token_269 : decode cX11_token 269 = .ok (.iconst 2, 1) := by decide +kernel
theorem dX11_token_270 : decode cX11_token 270 = .ok (.putfield 60, 3) := by decide +kernel
theorem dX11_token_273 : decode cX11_token 273 = .ok (.return_, 1) := by decide +kernel
theorem dX11_token_274 : decode cX11_token 274 = .ok (.aload_n 0, 1) := by decide +kernel
theorem dX11_token_275 : decode cX11_token 275 = .ok (.aload_n 0, 1) := by decide +kernel
theorem dX11_token_276 : decode cX11_token 276 = .ok (.getfield 24, 3) := by decide +kernel
theorem dX11_token_279 : decode cX11_token 279 = .ok (.aload_n 0, 1) := by decide +kernel
theorem dX11_token_280 : decode cX11_token 280 = .ok (.getfield 57, 3) := by decide +kernel
theorem dX11_token_283 : decode cX11_token 283 = .ok (.iaload, 1) := by decide +kernel
theorem dX11_token_284 : decode cX11_token 284 = .ok (.bipush 59, 2) := by decide +kernel
theorem dX11_token_286 : decode cX11_token 286 = .ok (.if_icmp .ne 7, 3) := by decide +kernel
theorem dX11_token_289 : decode cX11_token 289 = .ok (.iconst 3, 1) := by decide +kernel
theorem dX11_token_290 : decode cX11_token 290 = .ok (.goto 4, 3) := by decide +kernel
theorem dX11_token_293 : decode cX11_token 293 = .ok (.iconst 4, 1) := by decide +kernel
theorem dX11_token_294 : decode cX11_token 294 = .ok (.putfield 60, 3) := by decide +kernel
theorem dX11_token_297 : decode cX11_token 297 = .ok (.aload_n 0, 1) := by decide +kernel
theorem dX11_token_298 : decode cX11_token 298 = .ok (.dup, 1) := by decide +kernel
theorem dX11_token_299 : decode cX11_token 299 = .ok (.getfield 57, 3) := by decide +kernel
theorem dX11_token_302 : decode cX11_token 302 = .ok (.iconst 1, 1) := by decide +kernel
theorem dX11_token_303 : decode cX11_token 303 = .ok (.iadd, 1) := by decide +kernel
theorem dX11_token_304 : decode cX11_token 304 = .ok (.putfield 57, 3) := by decide +kernel
theorem dX11_token_307 : decode cX11_token 307 = .ok (.return_, 1) := by decide +kernel
set_option maxRecDepth 20000 in
theorem ggX11_begin_X11_token : GoodIn wsX11_begin wsX11_token := goodIn_r _ [8, 3, 9, 10, 11, 12, 13, 14, 15, 7, 16, 17, 18, 19, 20, 21, 22, 23, 24, 25, 26, 27, 28, 29, 30, 31, 32, 33, 34, 35, 36, 37, 38, 39] (by decide +kernel) (by decide +kernel)
set_option maxRecDepth 20000 in
theorem gX11_begin_X11_token : GoodIn wsX11_begin (wsV RX11 184 RX11 yX11_token wsX11_token) := goodIn_app (goodIn_of _ (by decide +kernel)) ggX11_begin_X11_token
theorem dX11_begin_0 : decode cX11_begin 0 = .ok (.aload_n 0, 1) := by decide +kernel
theorem dX11_begin_1 : decode cX11_begin 1 = .ok (.iconst 0, 1) := by decide +kernel
theorem dX11_begin_2 : decode cX11_begin 2 = .ok (.putfield 30, 3) := by decide +kernel
theorem dX11_begin_5 : decode cX11_begin 5 = .ok (.aload_n 0, 1) := by decide +kernel
theorem dX11_begin_6 : decode cX11_begin 6 = .ok (.iconst (-1), 1) := by decide +kernel
theorem dX11_begin_7 : decode cX11_begin 7 = .ok (.putfield 33, 3) := by decide +kernel
theorem dX11_begin_10 : decode cX11_begin 10 = .ok (.aload_n 0, 1) := by decide +kernel
theorem dX11_begin_11 : decode cX11_begin 11 = .ok (.iconst 0, 1) := by decide +kernel
theorem dX11_begin_12 : decode cX11_begin 12 = .ok (.putfield 57, 3) := by decide +kernel
theorem dX11_begin_15 : decode cX11_begin 15 = .ok (.aload_n 0, 1) := by decide +kernel
theorem dX11_begin_16 : decode cX11_begin 16 = .ok (.invokevirtual 184, 3) := by decide +kernel
theorem dX11_begin_19 : decode cX11_begin 19 = .ok (.return_, 1) := by decide +kernel
theorem dX11_wrong_0 : decode cX11_wrong 0 = .ok (.aload_n 0, 1) := by decide +kernel
theorem dX11_wrong_1 : decode cX11_wrong 1 = .ok (.iload_n 1, 1) := by decide +kernel
theorem dX11_wrong_2 : decode cX11_wrong 2 = .ok (.putfield 30, 3) := by decide +kernel
theorem dX11_wrong_5 : decode cX11_wrong 5 = .ok (.aload_n 0, 1) := by decide +kernel
theorem dX11_wrong_6 : decode cX11_wrong 6 = .ok (.aload_n 0, 1) := by decide +kernel
theorem dX11_wrong_7 : decode cX11_wrong 7 = .ok (.getfield 63, 3) := by decide +kernel
theorem dX11_wrong_10 : decode cX11_wrong 10 = .ok (.putfield 33, 3) := by decide +kernel
theorem dX11_wrong_13 : decode cX11_wrong 13 = .ok (.iconst 0, 1) := by decide +kernel
theorem dX11_wrong_14 : decode cX11_wrong 14 = .ok (.ireturn, 1) := by decide +kernel
set_option maxRecDepth 20000 in
theorem ggX11_isWord_J0_length_8abf5 : GoodIn wsX11_isWord wsJ0_length_8abf5 := goodIn_r _ [9, 10, 11, 12, 13, 8, 14, 15, 16] (by decide +kernel) (by decide +kernel)
set_option maxRecDepth 20000 in
theorem gX11_isWord_J0_length_8abf5 : GoodIn wsX11_isWord (wsV RX11 74 RJ0 yJ0_length_8abf5 wsJ0_length_8abf5) := goodIn_app (goodIn_of _ (by decide +kernel)) ggX11_isWord_J0_length_8abf5
set_option maxRecDepth 20000 in
theorem ggX11_isWord_J0_charAt_5068e : GoodIn wsX11_isWord wsJ0_charAt_5068e := goodIn_r _ [20, 10, 21, 22, 23, 8, 24, 15, 16, 25, 26, 27, 28, 29, 30, 31, 32, 33, 34, 35, 36, 37, 38, 39, 40, 41, 42, 43, 44, 45, 46, 47, 48, 49, 50, 51, 52, 53] (by decide +kernel) (by decide +kernel)
set_option maxRecDepth 20000 in
theorem gX11_isWord_J0_charAt_5068e : GoodIn wsX11_isWord (wsV RX11 79 RJ0 yJ0_charAt_5068e wsJ0_charAt_5068e) := goodIn_app (goodIn_of _ (by decide +kernel)) ggX11_isWord_J0_charAt_5068e
theorem dX11_isWord_0 : decode cX11_isWord 0 = .ok (.aload_n 0, 1) := by decide +kernel
theorem dX11_isWord_1 : decode cX11_isWord 1 = .ok (.getfield 60, 3) := by decide +kernel
theorem dX11_isWord_4 : decode cX11_isWord 4 = .ok (.iconst 1, 1) := by decide +kernel
theorem dX11_isWord_5 : decode cX11_isWord 5 = .ok (.if_icmp .ne 19, 3) := by decide +kernel
theorem dX11_isWord_8 : decode cX11_isWord 8 = .ok (.aload_n 0, 1) := by decide +kernel
theorem dX11_isWord_9 : decode cX11_isWord 9 = .ok (.getfield 57, 3) := by decide +kernel
theorem dX11_isWord_12 : decode cX11_isWord 12 = .ok (.aload_n 0, 1) := by decide +kernel
theorem dX11_isWord_13 : decode cX11_isWord 13 = .ok (.getfield 63, 3) := by decide +kernel
theorem dX11_isWord_16 : decode cX11_isWord 16 = .ok (.isub, 1) := by decide +kernel
theorem dX11_isWord_17 : decode cX11_isWord 17 = .ok (.aload_n 1, 1) := by decide +kernel
theorem dX11_isWord_18 : decode cX11_isWord 18 = .ok (.invokevirtual 74, 3) := by decide +kernel
theorem dX11_isWord_21 : decode cX11_isWord 21 = .ok (.if_icmp .eq 5, 3) := by decide +kernel
theorem dX11_isWord_24 : decode cX11_isWord 24 = .ok (.iconst 0, 1) := by decide +kernel
theorem dX11_isWord_25 : decode cX11_isWord 25 = .ok (.ireturn, 1) := by decide +kernel
theorem dX11_isWord_26 : decode cX11_isWord 26 = .ok (.iconst 0, 1) := by decide +kernel
theorem dX11_isWord_27 : decode cX11_isWord 27 = .ok (.istore_n 2, 1) := by decide +kernel
theorem dX11_isWord_28 : decode cX11_isWord 28 = .ok (.iload_n 2, 1) := by decide +kernel
theorem dX11_isWord_29 : decode cX11_isWord 29 = .ok (.aload_n 1, 1) := by decide +kernel
theorem dX11_isWord_30 : decode cX11_isWord 30 = .ok (.invokevirtual 74, 3) := by decide +kernel
theorem dX11_isWord_33 : decode cX11_isWord 33 = .ok (.if_icmp .ge 30, 3) := by decide +kernel
theorem dX11_isWord_36 : decode cX11_isWord 36 = .ok (.aload_n 0, 1) := by decide +kernel
theorem dX11_isWord_37 : decode cX11_isWord 37 = .ok (.getfield 24, 3) := by decide +kernel
theorem dX11_isWord_40 : decode cX11_isWord 40 = .ok (.aload_n 0, 1) := by decide +kernel
theorem dX11_isWord_41 : decode cX11_isWord 41 = .ok (.getfield 63, 3) := by decide +kernel
theorem dX11_isWord_44 : decode cX11_isWord 44 = .ok (.iload_n 2, 1) := by decide +kernel
theorem dX11_isWord_45 : decode cX11_isWord 45 = .ok (.iadd, 1) := by decide +kernel
theorem dX11_isWord_46 : decode cX11_isWord 46 = .ok (.iaload, 1) := by decide +kernel
theorem dX11_isWord_47 : decode cX11_isWord 47 = .ok (.aload_n 1, 1) := by decide +kernel
theorem dX11_isWord_48 : decode cX11_isWord 48 = .ok (.iload_n 2, 1) := by decide +kernel
theorem dX11_isWord_49 : decode cX11_isWord 49 = .ok (.invokevirtual 79, 3) := by decide +kernel
theorem dX11_isWord_52 : decode cX11_isWord 52 = .ok (.if_icmp .eq 5, 3) := by decide +kernel
theorem dX11_isWord_55 : decode cX11_isWord 55 = .ok (.iconst 0, 1) := by decide +kernel
theorem dX11_isWord_56 : decode cX11_isWord 56 = .ok (.ireturn, 1) := by decide +kernel
theorem dX11_isWord_57 : decode cX11_isWord 57 = .ok (.iinc 2 1, 3) := by decide +kernel
theorem dX11_isWord_60 : decode cX11_isWord 60 = .ok (.goto (-32), 3) := by decide +kernel
theorem dX11_isWord_63 : decode cX11_isWord 63 = .ok (.iconst 1, 1) := by decide +kernel
theorem dX11_isWord_64 : decode cX11_isWord 64 = .ok (.ireturn, 1) := by decide +kernel
set_option maxRecDepth 20000 in
theorem ggX11_semicolon_X11_wrong : GoodIn wsX11_semicolon wsX11_wrong := goodIn_r _ [6, 7, 8, 9, 24, 25, 26, 27, 28, 29, 30, 31, 32, 33, 34, 35, 36, 37, 38, 39, 40, 41, 42, 43] (by decide +kernel) (by decide +kernel)
set_option maxRecDepth 20000 in
theorem gX11_semicolon_X11_wrong : GoodIn wsX11_semicolon (wsV RX11 187 RX11 yX11_wrong wsX11_wrong) := goodIn_app (goodIn_of _ (by decide +kernel)) ggX11_semicolon_X11_wrong
set_option maxRecDepth 20000 in
theorem ggX11_semicolon_X11_token : GoodIn wsX11_semicolon wsX11_token := goodIn_r _ [13, 14, 15, 16, 8, 1, 17, 18, 19, 5, 20, 21, 22, 23, 24, 25, 26, 27, 28, 29, 30, 31, 32, 33, 34, 35, 36, 37, 38, 39, 40, 41, 42, 43] (by decide +kernel) (by decide +kernel)
set_option maxRecDepth 20000 in
theorem gX11_semicolon_X11_token : GoodIn wsX11_semicolon (wsV RX11 184 RX11 yX11_token wsX11_token) := goodIn_app (goodIn_of _ (by decide +kernel)) ggX11_semicolon_X11_token
theorem dX11_semicolon_0 : decode cX11_semicolon 0 = .ok (.aload_n 0, 1) := by decide +kernel
theorem dX11_semicolon_1 : decode cX11_semicolon 1 = .ok (.getfield 60, 3) := by decide +kernel
theorem dX11_semicolon_4 : decode cX11_semicolon 4 = .ok (.iconst 3, 1) := by decide +kernel
theorem dX11_semicolon_5 : decode cX11_semicolon 5 = .ok (.if_icmp .eq 9, 3) := by decide +kernel
theorem dX11_semicolon_8 : decode cX11_semicolon 8 = .ok (.aload_n 0, 1) := by decide +kernel
theorem dX11_semicolon_9 : decode cX11_semicolon 9 = .ok (.iconst 1, 1) := by decide +kernel
theorem dX11_semicolon_10 : decode cX11_semicolon 10 = .ok (.invokevirtual 187, 3) := by decide +kernel
theorem dX11_semicolon_13 : decode cX11_semicolon 13 = .ok (.ireturn, 1) := by decide +kernel
theorem dX11_semicolon_14 : decode cX11_semicolon 14 = .ok (.aload_n 0, 1) := by decide +kernel
theorem dX11_semicolon_15 : decode cX11_semicolon 15 = .ok (.invokevirtual 184, 3) := by decide +kernel
theorem dX11_semicolon_18 : decode cX11_semicolon 18 = .ok (.iconst 1, 1) := by decide +kernel
theorem dX11_semicolon_19 : decode cX11_semicolon 19 = .ok (.ireturn, 1) := by decide +kernel
theorem dX11_siblingNamed_0 : decode cX11_siblingNamed 0 = .ok (.iconst 0, 1) := by decide +kernel
theorem dX11_siblingNamed_1 : decode cX11_siblingNamed 1 = .ok (.istore_n 3, 1) := by decide +kernel
theorem dX11_siblingNamed_2 : decode cX11_siblingNamed 2 = .ok (.iload_n 3, 1) := by decide +kernel
theorem dX11_siblingNamed_3 : decode cX11_siblingNamed 3 = .ok (.aload_n 0, 1) := by decide +kernel
theorem dX11_siblingNamed_4 : decode cX11_siblingNamed 4 = .ok (.getfield 13, 3) := by decide +kernel
theorem dX11_siblingNamed_7 : decode cX11_siblingNamed 7 = .ok (.iconst 1, 1) := by decide +kernel
theorem dX11_siblingNamed_8 : decode cX11_siblingNamed 8 = .ok (.iaload, 1) := by decide +kernel
theorem dX11_siblingNamed_9 : decode cX11_siblingNamed 9 = .ok (.if_icmp .ge 94, 3) := by decide +kernel
theorem dX11_siblingNamed_12 : decode cX11_siblingNamed 12 = .ok (.bipush 26, 2) := by decide +kernel
theorem dX11_siblingNamed_14 : decode cX11_siblingNamed 14 = .ok (.iload_n 3, 1) := by decide +kernel
theorem dX11_siblingNamed_15 : decode cX11_siblingNamed 15 = .ok (.bipush 31, 2) := by decide +kernel
theorem dX11_siblingNamed_17 : decode cX11_siblingNamed 17 = .ok (.imul, 1) := by decide +kernel
theorem dX11_siblingNamed_18 : decode cX11_siblingNamed 18 = .ok (.iadd, 1) := by decide +kernel
theorem dX11_siblingNamed_19 : decode cX11_siblingNamed 19 = .ok (.istore 4, 2) := by decide +kernel
theorem dX11_siblingNamed_21 : decode cX11_siblingNamed 21 = .ok (.aload_n 0, 1) := by decide +kernel
theorem dX11_siblingNamed_22 : decode cX11_siblingNamed 22 = .ok (.getfield 13, 3) := by decide +kernel
theorem dX11_siblingNamed_25 : decode cX11_siblingNamed 25 = .ok (.iload 4, 2) := by decide +kernel
theorem dX11_siblingNamed_27 : decode cX11_siblingNamed 27 = .ok (.iaload, 1) := by decide +kernel
theorem dX11_siblingNamed_28 : decode cX11_siblingNamed 28 = .ok (.iload_n 2, 1) := by decide +kernel
theorem dX11_siblingNamed_29 : decode cX11_siblingNamed 29 = .ok (.if_icmp .ne 7, 3) := by decide +kernel
theorem dX11_siblingNamed_32 : decode cX11_siblingNamed 32 = .ok (.iconst 1, 1) := by decide +kernel
theorem dX11_siblingNamed_33 : decode cX11_siblingNamed 33 = .ok (.goto 4, 3) := by decide +kernel
theorem dX11_siblingNamed_36 : decode cX11_siblingNamed 36 = .ok (.iconst 0, 1) := by decide +kernel
theorem dX11_siblingNamed_37 : decode cX11_siblingNamed 37 = .ok (.istore 5, 2) := by decide +kernel
theorem dX11_siblingNamed_39 : decode cX11_siblingNamed 39 = .ok (.iconst 0, 1) := by decide +kernel
theorem dX11_siblingNamed_40 : decode cX11_siblingNamed 40 = .ok (.istore 6, 2) := by decide +kernel
theorem dX11_siblingNamed_42 : decode cX11_siblingNamed 42 = .ok (.iload 5, 2) := by decide +kernel
theorem dX11_siblingNamed_44 : decode cX11_siblingNamed 44 = .ok (.ifCond .eq 46, 3) := by decide +kernel
theorem dX11_siblingNamed_47 : decode cX11_siblingNamed 47 = .ok (.iload 6, 2) := by decide +kernel
theorem dX11_siblingNamed_49 : decode cX11_siblingNamed 49 = .ok (.iload_n 2, 1) := by decide +kernel
theorem dX11_siblingNamed_50 : decode cX11_siblingNamed 50 = .ok (.if_icmp .ge 40, 3) := by decide +kernel
theorem dX11_siblingNamed_53 : decode cX11_siblingNamed 53 = .ok (.aload_n 0, 1) := by decide +kernel
theorem dX11_siblingNamed_54 : decode cX11_siblingNamed 54 = .ok (.getfield 13, 3) := by decide +kernel
theorem dX11_siblingNamed_57 : decode cX11_siblingNamed 57 = .ok (.iload 4, 2) := by decide +kernel
theorem dX11_siblingNamed_59 : decode cX11_siblingNamed 59 = .ok (.iconst 1, 1) := by decide +kernel
theorem dX11_siblingNamed_60 : decode cX11_siblingNamed 60 = .ok (.iadd, 1) := by decide +kernel
theorem dX11_siblingNamed_61 : decode cX11_siblingNamed 61 = .ok (.iload 6, 2) := by decide +kernel
theorem dX11_siblingNamed_63 : decode cX11_siblingNamed 63 = .ok (.iadd, 1) := by decide +kernel
theorem dX11_siblingNamed_64 : decode cX11_siblingNamed 64 = .ok (.iaload, 1) := by decide +kernel
theorem dX11_siblingNamed_65 : decode cX11_siblingNamed 65 = .ok (.aload_n 0, 1) := by decide +kernel
theorem dX11_siblingNamed_66 : decode cX11_siblingNamed 66 = .ok (.getfield 24, 3) := by decide +kernel
theorem dX11_siblingNamed_69 : decode cX11_siblingNamed 69 = .ok (.iload_n 1, 1) := by decide +kernel
theorem dX11_siblingNamed_70 : decode cX11_siblingNamed 70 = .ok (.iload 6, 2) := by decide +kernel
theorem dX11_siblingNamed_72 : decode cX11_siblingNamed 72 = .ok (.iadd, 1) := by decide +kernel
theorem dX11_siblingNamed_73 : decode cX11_siblingNamed 73 = .ok (.iaload, 1) := by decide +kernel
theorem dX11_siblingNamed_74 : decode cX11_siblingNamed 74 = .ok (.if_icmp .ne 7, 3) := by decide +kernel
theorem dX11_siblingNamed_77 : decode cX11_siblingNamed 77 = .ok (.iconst 1, 1) := by decide +kernel
theorem dX11_siblingNamed_78 : decode cX11_siblingNamed 78 = .ok (.goto 4, 3) := by decide +kernel
theorem dX11_siblingNamed_81 : decode cX11_siblingNamed 81 = .ok (.iconst 0, 1) := by decide +kernel
theorem dX11_siblingNamed_82 : decode cX11_siblingNamed 82 = .ok (.istore 5, 2) := by decide +kernel
theorem dX11_siblingNamed_84 : decode cX11_siblingNamed 84 = .ok (.iinc 6 1, 3) := by decide +kernel
theorem dX11_siblingNamed_87 : decode cX11_siblingNamed 87 = .ok (.goto (-45), 3) := by decide +kernel
theorem dX11_siblingNamed_90 : decode cX11_siblingNamed 90 = .ok (.iload 5, 2) := by decide +kernel
theorem dX11_siblingNamed_92 : decode cX11_siblingNamed 92 = .ok (.ifCond .eq 5, 3) := by decide +kernel
theorem dX11_siblingNamed_95 : decode cX11_siblingNamed 95 = .ok (.iload_n 3, 1) := by decide +kernel
theorem dX11_siblingNamed_96 : decode cX11_siblingNamed 96 = .ok (.ireturn, 1) := by decide +kernel
theorem dX11_siblingNamed_97 : decode cX11_siblingNamed 97 = .ok (.iinc 3 1, 3) := by decide +kernel
theorem dX11_siblingNamed_100 : decode cX11_siblingNamed 100 = .ok (.goto (-98), 3) := by decide +kernel
theorem dX11_siblingNamed_103 : decode cX11_siblingNamed 103 = .ok (.iconst (-1), 1) := by decide +kernel
theorem dX11_siblingNamed_104 : decode cX11_siblingNamed 104 = .ok (.ireturn, 1) := by decide +kernel
set_option maxRecDepth 20000 in
theorem ggX11_isShortWord_X11_wrong : GoodIn wsX11_isShortWord wsX11_wrong := goodIn_r _ [8, 9, 3, 10, 11, 12, 13, 14, 15, 16, 17, 18, 19, 20, 21, 22, 23, 24, 25, 26, 27, 28, 29, 30] (by decide +kernel) (by decide +kernel)
set_option maxRecDepth 20000 in
theorem gX11_isShortWord_X11_wrong : GoodIn wsX11_isShortWord (wsV RX11 187 RX11 yX11_wrong wsX11_wrong) := goodIn_app (goodIn_of _ (by decide +kernel)) ggX11_isShortWord_X11_wrong
theorem dX11_isShortWord_0 : decode cX11_isShortWord 0 = .ok (.aload_n 0, 1) := by decide +kernel
theorem dX11_isShortWord_1 : decode cX11_isShortWord 1 = .ok (.getfield 60, 3) := by decide +kernel
theorem dX11_isShortWord_4 : decode cX11_isShortWord 4 = .ok (.iconst 1, 1) := by decide +kernel
theorem dX11_isShortWord_5 : decode cX11_isShortWord 5 = .ok (.if_icmp .eq 9, 3) := by decide +kernel
theorem dX11_isShortWord_8 : decode cX11_isShortWord 8 = .ok (.aload_n 0, 1) := by decide +kernel
theorem dX11_isShortWord_9 : decode cX11_isShortWord 9 = .ok (.iconst 1, 1) := by decide +kernel
theorem dX11_isShortWord_10 : decode cX11_isShortWord 10 = .ok (.invokevirtual 187, 3) := by decide +kernel
theorem dX11_isShortWord_13 : decode cX11_isShortWord 13 = .ok (.ireturn, 1) := by decide +kernel
theorem dX11_isShortWord_14 : decode cX11_isShortWord 14 = .ok (.aload_n 0, 1) := by decide +kernel
theorem dX11_isShortWord_15 : decode cX11_isShortWord 15 = .ok (.getfield 57, 3) := by decide +kernel
theorem dX11_isShortWord_18 : decode cX11_isShortWord 18 = .ok (.aload_n 0, 1) := by decide +kernel
theorem dX11_isShortWord_19 : decode cX11_isShortWord 19 = .ok (.getfield 63, 3) := by decide +kernel
theorem dX11_isShortWord_22 : decode cX11_isShortWord 22 = .ok (.isub, 1) := by decide +kernel
theorem dX11_isShortWord_23 : decode cX11_isShortWord 23 = .ok (.bipush 6, 2) := by decide +kernel
theorem dX11_isShortWord_25 : decode cX11_isShortWord 25 = .ok (.if_icmp .le 11, 3) := by decide +kernel
theorem dX11_isShortWord_28 : decode cX11_isShortWord 28 = .ok (.aload_n 0, 1) := by decide +kernel
theorem dX11_isShortWord_29 : decode cX11_isShortWord 29 = .ok (.iconst 3, 1) := by decide +kernel
theorem dX11_isShortWord_30 : decode cX11_isShortWord 30 = .ok (.invokevirtual 187, 3) := by decide +kernel
theorem dX11_isShortWord_33 : decode cX11_isShortWord 33 = .ok (.ifCond .eq 7, 3) := by decide +kernel
theorem dX11_isShortWord_36 : decode cX11_isShortWord 36 = .ok (.iconst 1, 1) := by decide +kernel
theorem dX11_isShortWord_37 : decode cX11_isShortWord 37 = .ok (.goto 4, 3) := by decide +kernel
theorem dX11_isShortWord_40 : decode cX11_isShortWord 40 = .ok (.iconst 0, 1) := by decide +kernel
theorem dX11_isShortWord_41 : decode cX11_isShortWord 41 = .ok (.ireturn, 1) := by decide +kernel
set_option maxRecDepth 20000 in
theorem ggX11_parseRanged_X11_wrong : GoodIn wsX11_parseRanged wsX11_wrong := goodIn_r _ [8, 9, 10, 11, 28, 29, 30, 31, 32, 33, 34, 35, 36, 37, 38, 39, 40, 41, 42, 43, 44, 45, 46, 47] (by decide +kernel) (by decide +kernel)
set_option maxRecDepth 20000 in
theorem gX11_parseRanged_X11_wrong : GoodIn wsX11_parseRanged (wsV RX11 187 RX11 yX11_wrong wsX11_wrong) := goodIn_app (goodIn_of _ (by decide +kernel)) ggX11_parseRanged_X11_wrong
set_option maxRecDepth 20000 in
theorem ggX11_parseRanged_X11_in : GoodIn wsX11_parseRanged wsX11_in := goodIn_r _ [14] (by decide +kernel) (by decide +kernel)
set_option maxRecDepth 20000 in
theorem gX11_parseRanged_X11_in : GoodIn wsX11_parseRanged (va_wsS RX11 90 yX11_in wsX11_in) := goodIn_app (goodIn_of _ (by decide +kernel)) ggX11_parseRanged_X11_in
set_option maxRecDepth 20000 in
theorem ggX11_parseRanged_X11_token : GoodIn wsX11_parseRanged wsX11_token := goodIn_r _ [18, 19, 20, 21, 10, 1, 2, 22, 23, 7, 24, 25, 26, 27, 28, 29, 30, 31, 32, 33, 34, 35, 36, 37, 38, 39, 40, 41, 42, 43, 44, 45, 46, 47] (by decide +kernel) (by decide +kernel)
set_option maxRecDepth 20000 in
theorem gX11_parseRanged_X11_token : GoodIn wsX11_parseRanged (wsV RX11 184 RX11 yX11_token wsX11_token) := goodIn_app (goodIn_of _ (by decide +kernel)) ggX11_parseRanged_X11_token
theorem dX11_parseRanged_0 : decode cX11_parseRanged 0 = .ok (.aload_n 0, 1) := by decide +kernel
theorem dX11_parseRanged_1 : decode cX11_parseRanged 1 = .ok (.getfield 60, 3) := by decide +kernel
theorem dX11_parseRanged_4 : decode cX11_parseRanged 4 = .ok (.iconst 2, 1) := by decide +kernel
theorem dX11_parseRanged_5 : decode cX11_parseRanged 5 = .ok (.if_icmp .eq 9, 3) := by decide +kernel
theorem dX11_parseRanged_8 : decode cX11_parseRanged 8 = .ok (.aload_n 0, 1) := by decide +kernel
theorem dX11_parseRanged_9 : decode cX11_parseRanged 9 = .ok (.iconst 1, 1) := by decide +kernel
theorem dX11_parseRanged_10 : decode cX11_parseRanged 10 = .ok (.invokevirtual 187, 3) := by decide +kernel
theorem dX11_parseRanged_13 : decode cX11_parseRanged 13 = .ok (.ireturn, 1) := by decide +kernel
theorem dX11_parseRanged_14 : decode cX11_parseRanged 14 = .ok (.aload_n 0, 1) := by decide +kernel
theorem dX11_parseRanged_15 : decode cX11_parseRanged 15 = .ok (.getfield 66, 3) := by decide +kernel
theorem dX11_parseRanged_18 : decode cX11_parseRanged 18 = .ok (.iload_n 2, 1) := by decide +kernel
theorem dX11_parseRanged_19 : decode cX11_parseRanged 19 = .ok (.iload_n 3, 1) := by decide +kernel
theorem dX11_parseRanged_20 : decode cX11_parseRanged 20 = .ok (.invokestatic 90, 3) := by decide +kernel
theorem dX11_parseRanged_23 : decode cX11_parseRanged 23 = .ok (.ifCond .ne 9, 3) := by decide +kernel
theorem dX11_parseRanged_26 : decode cX11_parseRanged 26 = .ok (.aload_n 0, 1) := by decide +kernel
theorem dX11_parseRanged_27 : decode cX11_parseRanged 27 = .ok (.iconst 2, 1) := by decide +kernel
theorem dX11_parseRanged_28 : decode cX11_parseRanged 28 = .ok (.invokevirtual 187, 3) := by decide +kernel
theorem dX11_parseRanged_31 : decode cX11_parseRanged 31 = .ok (.ireturn, 1) := by decide +kernel
theorem dX11_parseRanged_32 : decode cX11_parseRanged 32 = .ok (.aload_n 0, 1) := by decide +kernel
theorem dX11_parseRanged_33 : decode cX11_parseRanged 33 = .ok (.getfield 13, 3) := by decide +kernel
theorem dX11_parseRanged_36 : decode cX11_parseRanged 36 = .ok (.iload_n 1, 1) := by decide +kernel
theorem dX11_parseRanged_37 : decode cX11_parseRanged 37 = .ok (.aload_n 0, 1) := by decide +kernel
theorem dX11_parseRanged_38 : decode cX11_parseRanged 38 = .ok (.getfield 66, 3) := by decide +kernel
theorem dX11_parseRanged_41 : decode cX11_parseRanged 41 = .ok (.iastore, 1) := by decide +kernel
theorem dX11_parseRanged_42 : decode cX11_parseRanged 42 = .ok (.aload_n 0, 1) := by decide +kernel
theorem dX11_parseRanged_43 : decode cX11_parseRanged 43 = .ok (.invokevirtual 184, 3) := by decide +kernel
theorem dX11_parseRanged_46 : decode cX11_parseRanged 46 = .ok (.iconst 1, 1) := by decide +kernel
theorem dX11_parseRanged_47 : decode cX11_parseRanged 47 = .ok (.ireturn, 1) := by decide +kernel
set_option maxRecDepth 20000 in
theorem ggX11_parseNewSibling_X11_wrong : GoodIn wsX11_parseNewSibling wsX11_wrong := goodIn_r _ [9, 10, 2, 11, 44, 45, 46, 47, 48, 49, 50, 51, 52, 53, 54, 55, 56, 57, 58, 59, 60, 61, 62, 63] (by decide +kernel) (by decide +kernel)
set_option maxRecDepth 20000 in
theorem gX11_parseNewSibling_X11_wrong : GoodIn wsX11_parseNewSibling (wsV RX11 187 RX11 yX11_wrong wsX11_wrong) := goodIn_app (goodIn_of _ (by decide +kernel)) ggX11_parseNewSibling_X11_wrong
set_option maxRecDepth 20000 in
theorem ggX11_parseNewSibling_X11_token : GoodIn wsX11_parseNewSibling wsX11_token := goodIn_r _ [15, 3, 16, 4, 2, 17, 18, 19, 20, 8, 21, 22, 23, 24, 44, 45, 46, 47, 48, 49, 50, 51, 52, 53, 54, 55, 56, 57, 58, 59, 60, 61, 62, 63] (by decide +kernel) (by decide +kernel)
set_option maxRecDepth 20000 in
theorem gX11_parseNewSibling_X11_token : GoodIn wsX11_parseNewSibling (wsV RX11 184 RX11 yX11_token wsX11_token) := goodIn_app (goodIn_of _ (by decide +kernel)) ggX11_parseNewSibling_X11_token
set_option maxRecDepth 20000 in
theorem ggX11_parseNewSibling_X11_isShortWord : GoodIn wsX11_parseNewSibling wsX11_isShortWord := goodIn_r _ [28, 17, 3, 2, 5, 6, 7, 8, 9, 10, 11, 44, 45, 46, 47, 48, 49, 50, 51, 52, 53, 54, 55, 56, 57, 58, 59, 60, 61, 62, 63] (by decide +kernel) (by decide +kernel)
set_option maxRecDepth 20000 in
theorem gX11_parseNewSibling_X11_isShortWord : GoodIn wsX11_parseNewSibling (wsV RX11 190 RX11 yX11_isShortWord wsX11_isShortWord) := goodIn_app (goodIn_of _ (by decide +kernel)) ggX11_parseNewSibling_X11_isShortWord
set_option maxRecDepth 20000 in
theorem ggX11_parseNewSibling_X11_siblingNamed : GoodIn wsX11_parseNewSibling wsX11_siblingNamed := goodIn_r _ [32, 1, 4, 44, 45, 46, 47, 48, 49, 50, 51, 52, 53, 54, 55, 56, 57, 58, 59, 60, 61, 62, 63] (by decide +kernel) (by decide +kernel)
set_option maxRecDepth 20000 in
theorem gX11_parseNewSibling_X11_siblingNamed : GoodIn wsX11_parseNewSibling (wsV RX11 193 RX11 yX11_siblingNamed wsX11_siblingNamed) := goodIn_app (goodIn_of _ (by decide +kernel)) ggX11_parseNewSibling_X11_siblingNamed
set_option maxRecDepth 20000 in
theorem ggX11_parseNewSibling_X11_parseRanged : GoodIn wsX11_parseNewSibling wsX11_parseRanged := goodIn_r _ [36, 17, 18, 1, 5, 6, 7, 8, 9, 10, 2, 11, 37, 38, 39, 12, 13, 14, 15, 3, 16, 4, 19, 20, 21, 22, 23, 24, 44, 45, 46, 47, 48, 49, 50, 51, 52, 53, 54, 55, 56, 57, 58, 59, 60, 61, 62, 63] (by decide +kernel) (by decide +kernel)
set_option maxRecDepth 20000 in
theorem gX11_parseNewSibling_X11_parseRanged : GoodIn wsX11_parseNewSibling (wsV RX11 196 RX11 yX11_parseRanged wsX11_parseRanged) := goodIn_app (goodIn_of _ (by decide +kernel)) ggX11_parseNewSibling_X11_parseRanged
set_option maxRecDepth 20000 in
theorem ggX11_parseNewSibling_X11_semicolon : GoodIn wsX11_parseNewSibling wsX11_semicolon := goodIn_r _ [43, 17, 5, 6, 7, 8, 9, 10, 2, 11, 12, 13, 14, 15, 3, 16, 4, 18, 19, 20, 21, 22, 23, 24, 44, 45, 46, 47, 48, 49, 50, 51, 52, 53, 54, 55, 56, 57, 58, 59, 60, 61, 62, 63] (by decide +kernel) (by decide +kernel)
set_option maxRecDepth 20000 in
theorem gX11_parseNewSibling_X11_semicolon : GoodIn wsX11_parseNewSibling (wsV RX11 199 RX11 yX11_semicolon wsX11_semicolon) := goodIn_app (goodIn_of _ (by decide +kernel)) ggX11_parseNewSibling_X11_semicolon
theorem dX11_parseNewSibling_0 : decode cX11_parseNewSibling 0 = .ok (.aload_n 0, 1) := by decide +kernel
theorem dX11_parseNewSibling_1 : decode cX11_parseNewSibling 1 = .ok (.getfield 13, 3) := by decide +kernel
theorem dX11_parseNewSibling_4 : decode cX11_parseNewSibling 4 = .ok (.iconst 1, 1) := by decide +kernel
theorem dX11_parseNewSibling_5 : decode cX11_parseNewSibling 5 = .ok (.iaload, 1) := by decide +kernel
theorem dX11_parseNewSibling_6 : decode cX11_parseNewSibling 6 = .ok (.bipush 6, 2) := by decide +kernel
theorem dX11_parseNewSibling_8 : decode cX11_parseNewSibling 8 = .ok (.if_icmp .ne 9, 3) := by decide +kernel
theorem dX11_parseNewSibling_11 : decode cX11_parseNewSibling 11 = .ok (.aload_n 0, 1) := by decide +kernel
theorem dX11_parseNewSibling_12 : decode cX11_parseNewSibling 12 = .ok (.iconst 4, 1) := by decide +kernel
theorem dX11_parseNewSibling_13 : decode cX11_parseNewSibling 13 = .ok (.invokevirtual 187, 3) := by decide +kernel
theorem dX11_parseNewSibling_16 : decode cX11_parseNewSibling 16 = .ok (.ireturn, 1) := by decide +kernel
theorem dX11_parseNewSibling_17 : decode cX11_parseNewSibling 17 = .ok (.aload_n 0, 1) := by decide +kernel
theorem dX11_parseNewSibling_18 : decode cX11_parseNewSibling 18 = .ok (.invokevirtual 184, 3) := by decide +kernel
theorem dX11_parseNewSibling_21 : decode cX11_parseNewSibling 21 = .ok (.aload_n 0, 1) := by decide +kernel
theorem dX11_parseNewSibling_22 : decode cX11_parseNewSibling 22 = .ok (.invokevirtual 190, 3) := by decide +kernel
theorem dX11_parseNewSibling_25 : decode cX11_parseNewSibling 25 = .ok (.ifCond .ne 5, 3) := by decide +kernel
theorem dX11_parseNewSibling_28 : decode cX11_parseNewSibling 28 = .ok (.iconst 0, 1) := by decide +kernel
theorem dX11_parseNewSibling_29 : decode cX11_parseNewSibling 29 = .ok (.ireturn, 1) := by decide +kernel
theorem dX11_parseNewSibling_30 : decode cX11_parseNewSibling 30 = .ok (.aload_n 0, 1) := by decide +kernel
theorem dX11_parseNewSibling_31 : decode cX11_parseNewSibling 31 = .ok (.aload_n 0, 1) := by decide +kernel
theorem dX11_parseNewSibling_32 : decode cX11_parseNewSibling 32 = .ok (.getfield 63, 3) := by decide +kernel
theorem dX11_parseNewSibling_35 : decode cX11_parseNewSibling 35 = .ok (.aload_n 0, 1) := by decide +kernel
theorem dX11_parseNewSibling_36 : decode cX11_parseNewSibling 36 = .ok (.getfield 57, 3) := by decide +kernel
theorem dX11_parseNewSibling_39 : decode cX11_parseNewSibling 39 = .ok (.aload_n 0, 1) := by decide +kernel
theorem dX11_parseNewSibling_40 : decode cX11_parseNewSibling 40 = .ok (.getfield 63, 3) := by decide +kernel
theorem dX11_parseNewSibling_43 : decode cX11_parseNewSibling 43 = .ok (.isub, 1) := by decide +kernel
theorem dX11_parseNewSibling_44 : decode cX11_parseNewSibling 44 = .ok (.invokevirtual 193, 3) := by decide +kernel
theorem dX11_parseNewSibling_47 : decode cX11_parseNewSibling 47 = .ok (.iconst (-1), 1) := by decide +kernel
theorem dX11_parseNewSibling_48 : decode cX11_parseNewSibling 48 = .ok (.if_icmp .eq 9, 3) := by decide +kernel
theorem dX11_parseNewSibling_51 : decode cX11_parseNewSibling 51 = .ok (.aload_n 0, 1) := by decide +kernel
theorem dX11_parseNewSibling_52 : decode cX11_parseNewSibling 52 = .ok (.iconst 3, 1) := by decide +kernel
theorem dX11_parseNewSibling_53 : decode cX11_parseNewSibling 53 = .ok (.invokevirtual 187, 3) := by decide +kernel
theorem dX11_parseNewSibling_56 : decode cX11_parseNewSibling 56 = .ok (.ireturn, 1) := by decide +kernel
theorem dX11_parseNewSibling_57 : decode cX11_parseNewSibling 57 = .ok (.bipush 26, 2) := by decide +kernel
theorem dX11_parseNewSibling_59 : decode cX11_parseNewSibling 59 = .ok (.aload_n 0, 1) := by decide +kernel
theorem dX11_parseNewSibling_60 : decode cX11_parseNewSibling 60 = .ok (.getfield 13, 3) := by decide +kernel
theorem dX11_parseNewSibling_63 : decode cX11_parseNewSibling 63 = .ok (.iconst 1, 1) := by decide +kernel
theorem dX11_parseNewSibling_64 : decode cX11_parseNewSibling 64 = .ok (.iaload, 1) := by decide +kernel
theorem dX11_parseNewSibling_65 : decode cX11_parseNewSibling 65 = .ok (.bipush 31, 2) := by decide +kernel
theorem dX11_parseNewSibling_67 : decode cX11_parseNewSibling 67 = .ok (.imul, 1) := by decide +kernel
theorem dX11_parseNewSibling_68 : decode cX11_parseNewSibling 68 = .ok (.iadd, 1) := by decide +kernel
theorem dX11_parseNewSibling_69 : decode cX11_parseNewSibling 69 = .ok (.istore_n 1, 1) := by decide +kernel
theorem dX11_parseNewSibling_70 : decode cX11_parseNewSibling 70 = .ok (.aload_n 0, 1) := by decide +kernel
theorem dX11_parseNewSibling_71 : decode cX11_parseNewSibling 71 = .ok (.getfield 13, 3) := by decide +kernel
theorem dX11_parseNewSibling_74 : decode cX11_parseNewSibling 74 = .ok (.iload_n 1, 1) := by decide +kernel
theorem dX11_parseNewSibling_75 : decode cX11_parseNewSibling 75 = .ok (.aload_n 0, 1) := by decide +kernel
theorem dX11_parseNewSibling_76 : decode cX11_parseNewSibling 76 = .ok (.getfield 57, 3) := by decide +kernel
theorem dX11_parseNewSibling_79 : decode cX11_parseNewSibling 79 = .ok (.aload_n 0, 1) := by decide +kernel
theorem dX11_parseNewSibling_80 : decode cX11_parseNewSibling 80 = .ok (.getfield 63, 3) := by decide +kernel
theorem dX11_parseNewSibling_83 : decode cX11_parseNewSibling 83 = .ok (.isub, 1) := by decide +kernel
theorem dX11_parseNewSibling_84 : decode cX11_parseNewSibling 84 = .ok (.iastore, 1) := by decide +kernel
theorem dX11_parseNewSibling_85 : decode cX11_parseNewSibling 85 = .ok (.aload_n 0, 1) := by decide +kernel
theorem dX11_parseNewSibling_86 : decode cX11_parseNewSibling 86 = .ok (.getfield 63, 3) := by decide +kernel
theorem dX11_parseNewSibling_89 : decode cX11_parseNewSibling 89 = .ok (.istore_n 2, 1) := by decide +kernel
theorem dX11_parseNewSibling_90 : decode cX11_parseNewSibling 90 = .ok (.iload_n 2, 1) := by decide +kernel
theorem dX11_parseNewSibling_91 : decode cX11_parseNewSibling 91 = .ok (.aload_n 0, 1) := by decide +kernel
theorem dX11_parseNewSibling_92 : decode cX11_parseNewSibling 92 = .ok (.getfield 57, 3) := by decide +kernel
theorem dX11_parseNewSibling_95 : decode cX11_parseNewSibling 95 = .ok (.if_icmp .ge 30, 3) := by decide +kernel
theorem dX11_parseNewSibling_98 : decode cX11_parseNewSibling 98 = .ok (.aload_n 0, 1) := by decide +kernel
theorem dX11_parseNewSibling_99 : decode cX11_parseNewSibling 99 = .ok (.getfield 13, 3) := by decide +kernel
theorem dX11_parseNewSibling_102 : decode cX11_parseNewSibling 102 = .ok (.iload_n 1, 1) := by decide +kernel
theorem dX11_parseNewSibling_103 : decode cX11_parseNewSibling 103 = .ok (.iconst 1, 1) := by decide +kernel
theorem dX11_parseNewSibling_104 : decode cX11_parseNewSibling 104 = .ok (.iadd, 1) := by decide +kernel
theorem dX11_parseNewSibling_105 : decode cX11_parseNewSibling 105 = .ok (.iload_n 2, 1) := by decide +kernel
theorem dX11_parseNewSibling_106 : decode cX11_parseNewSibling 106 = .ok (.iadd, 1) := by decide +kernel
theorem dX11_parseNewSibling_107 : decode cX11_parseNewSibling 107 = .ok (.aload_n 0, 1) := by decide +kernel
theorem dX11_parseNewSibling_108 : decode cX11_parseNewSibling 108 = .ok (.getfield 63, 3) := by decide +kernel
theorem dX11_parseNewSibling_111 : decode cX11_parseNewSibling 111 = .ok (.isub, 1) := by decide +kernel
theorem dX11_parseNewSibling_112 : decode cX11_parseNewSibling 112 = .ok (.aload_n 0, 1) := by decide +kernel
theorem dX11_parseNewSibling_113 : decode cX11_parseNewSibling 113 = .ok (.getfield 24, 3) := by decide +kernel
theorem dX11_parseNewSibling_116 : decode cX11_parseNewSibling 116 = .ok (.iload_n 2, 1) := by decide +kernel
theorem dX11_parseNewSibling_117 : decode cX11_parseNewSibling 117 = .ok (.iaload, 1) := by decide +kernel
theorem dX11_parseNewSibling_118 : decode cX11_parseNewSibling 118 = .ok (.iastore, 1) := by decide +kernel
theorem dX11_parseNewSibling_119 : decode cX11_parseNewSibling 119 = .ok (.iinc 2 1, 3) := by decide +kernel
theorem dX11_parseNewSibling_122 : decode cX11_parseNewSibling 122 = .ok (.goto (-32), 3) := by decide +kernel
theorem dX11_parseNewSibling_125 : decode cX11_parseNewSibling 125 = .ok (.aload_n 0, 1) := by decide +kernel
theorem dX11_parseNewSibling_126 : decode cX11_parseNewSibling 126 = .ok (.invokevirtual 184, 3) := by decide +kernel
theorem dX11_parseNewSibling_129 : decode cX11_parseNewSibling 129 = .ok (.iconst 0, 1) := by decide +kernel
theorem dX11_parseNewSibling_130 : decode cX11_parseNewSibling 130 = .ok (.istore_n 2, 1) := by decide +kernel
theorem dX11_parseNewSibling_131 : decode cX11_parseNewSibling 131 = .ok (.iload_n 2, 1) := by decide +kernel
theorem dX11_parseNewSibling_132 : decode cX11_parseNewSibling 132 = .ok (.aload_n 0, 1) := by decide +kernel
theorem dX11_parseNewSibling_133 : decode cX11_parseNewSibling 133 = .ok (.getfield 13, 3) := by decide +kernel
theorem dX11_parseNewSibling_136 : decode cX11_parseNewSibling 136 = .ok (.iconst 0, 1) := by decide +kernel
theorem dX11_parseNewSibling_137 : decode cX11_parseNewSibling 137 = .ok (.iaload, 1) := by decide +kernel
theorem dX11_parseNewSibling_138 : decode cX11_parseNewSibling 138 = .ok (.if_icmp .ge 27, 3) := by decide +kernel
theorem dX11_parseNewSibling_141 : decode cX11_parseNewSibling 141 = .ok (.aload_n 0, 1) := by decide +kernel
theorem dX11_parseNewSibling_142 : decode cX11_parseNewSibling 142 = .ok (.iload_n 1, 1) := by decide +kernel
theorem dX11_parseNewSibling_143 : decode cX11_parseNewSibling 143 = .ok (.bipush 7, 2) := by decide +kernel
theorem dX11_parseNewSibling_145 : decode cX11_parseNewSibling 145 = .ok (.iadd, 1) := by decide +kernel
theorem dX11_parseNewSibling_146 : decode cX11_parseNewSibling 146 = .ok (.iload_n 2, 1) := by decide +kernel
theorem dX11_parseNewSibling_147 : decode cX11_parseNewSibling 147 = .ok (.iadd, 1) := by decide +kernel
theorem dX11_parseNewSibling_148 : decode cX11_parseNewSibling 148 = .ok (.iconst 0, 1) := by decide +kernel
theorem dX11_parseNewSibling_149 : decode cX11_parseNewSibling 149 = .ok (.bipush 9, 2) := by decide +kernel
theorem dX11_parseNewSibling_151 : decode cX11_parseNewSibling 151 = .ok (.invokevirtual 196, 3) := by decide +kernel
theorem dX11_parseNewSibling_154 : decode cX11_parseNewSibling 154 = .ok (.ifCond .ne 5, 3) := by decide +kernel
theorem dX11_parseNewSibling_157 : decode cX11_parseNewSibling 157 = .ok (.iconst 0, 1) := by decide +kernel
theorem dX11_parseNewSibling_158 : decode cX11_parseNewSibling 158 = .ok (.ireturn, 1) := by decide +kernel
theorem dX11_parseNewSibling_159 : decode cX11_parseNewSibling 159 = .ok (.iinc 2 1, 3) := by decide +kernel
theorem dX11_parseNewSibling_162 : decode cX11_parseNewSibling 162 = .ok (.goto (-31), 3) := by decide +kernel
theorem dX11_parseNewSibling_165 : decode cX11_parseNewSibling 165 = .ok (.aload_n 0, 1) := by decide +kernel
theorem dX11_parseNewSibling_166 : decode cX11_parseNewSibling 166 = .ok (.invokevirtual 199, 3) := by decide +kernel
theorem dX11_parseNewSibling_169 : decode cX11_parseNewSibling 169 = .ok (.ifCond .ne 5, 3) := by decide +kernel
theorem dX11_parseNewSibling_172 : decode cX11_parseNewSibling 172 = .ok (.iconst 0, 1) := by decide +kernel
theorem dX11_parseNewSibling_173 : decode cX11_parseNewSibling 173 = .ok (.ireturn, 1) := by decide +kernel
theorem dX11_parseNewSibling_174 : decode cX11_parseNewSibling 174 = .ok (.aload_n 0, 1) := by decide +kernel
theorem dX11_parseNewSibling_175 : decode cX11_parseNewSibling 175 = .ok (.getfield 13, 3) := by decide +kernel
theorem dX11_parseNewSibling_178 : decode cX11_parseNewSibling 178 = .ok (.iconst 1, 1) := by decide +kernel
theorem dX11_parseNewSibling_179 : decode cX11_parseNewSibling 179 = .ok (.dup2, 1) := by decide +kernel
theorem dX11_parseNewSibling_180 : decode cX11_parseNewSibling 180 = .ok (.iaload, 1) := by decide +kernel
theorem dX11_parseNewSibling_181 : decode cX11_parseNewSibling 181 = .ok (.iconst 1, 1) := by decide +kernel
theorem dX11_parseNewSibling_182 : decode cX11_parseNewSibling 182 = .ok (.iadd, 1) := by decide +kernel
theorem dX11_parseNewSibling_183 : decode cX11_parseNewSibling 183 = .ok (.iastore, 1) := by decide +kernel
theorem dX11_parseNewSibling_184 : decode cX11_parseNewSibling 184 = .ok (.iconst 1, 1) := by decide +kernel
theorem dX11_parseNewSibling_185 : decode cX11_parseNewSibling 185 = .ok (.ireturn, 1) := by decide +kernel
set_option maxRecDepth 20000 in
theorem ggX11_parseSetup_X11_isWord : GoodIn wsX11_parseSetup wsX11_isWord := goodIn_r _ [7, 2, 8, 9, 10, 11, 12, 13, 14, 15, 16, 17, 18, 19, 20, 21, 22, 23, 24, 25, 26, 27, 28, 29, 30, 31, 32, 33, 34, 35, 36, 37, 38, 39, 40, 41, 42, 43, 44, 45, 46, 47, 48, 49, 50, 51, 52, 53, 54, 55, 56, 57, 58, 59, 105, 106, 107, 108, 109, 110, 111, 112, 113, 114, 115, 116, 117, 118, 119, 120, 121, 122, 123, 124] (by decide +kernel) (by decide +kernel)
set_option maxRecDepth 20000 in
theorem gX11_parseSetup_X11_isWord : GoodIn wsX11_parseSetup (wsV RX11 204 RX11 yX11_isWord wsX11_isWord) := goodIn_app (goodIn_of _ (by decide +kernel)) ggX11_parseSetup_X11_isWord
set_option maxRecDepth 20000 in
theorem ggX11_parseSetup_X11_wrong : GoodIn wsX11_parseSetup wsX11_wrong := goodIn_r _ [63, 64, 9, 65, 105, 106, 107, 108, 109, 110, 111, 112, 113, 114, 115, 116, 117, 118, 119, 120, 121, 122, 123, 124] (by decide +kernel) (by decide +kernel)
set_option maxRecDepth 20000 in
theorem gX11_parseSetup_X11_wrong : GoodIn wsX11_parseSetup (wsV RX11 187 RX11 yX11_wrong wsX11_wrong) := goodIn_app (goodIn_of _ (by decide +kernel)) ggX11_parseSetup_X11_wrong
set_option maxRecDepth 20000 in
theorem ggX11_parseSetup_X11_token : GoodIn wsX11_parseSetup wsX11_token := goodIn_r _ [69, 8, 70, 10, 9, 2, 71, 72, 73, 6, 74, 75, 76, 77, 105, 106, 107, 108, 109, 110, 111, 112, 113, 114, 115, 116, 117, 118, 119, 120, 121, 122, 123, 124] (by decide +kernel) (by decide +kernel)
set_option maxRecDepth 20000 in
theorem gX11_parseSetup_X11_token : GoodIn wsX11_parseSetup (wsV RX11 184 RX11 yX11_token wsX11_token) := goodIn_app (goodIn_of _ (by decide +kernel)) ggX11_parseSetup_X11_token
set_option maxRecDepth 20000 in
theorem ggX11_parseSetup_X11_parseRanged : GoodIn wsX11_parseSetup wsX11_parseRanged := goodIn_r _ [81, 2, 71, 1, 60, 61, 62, 6, 63, 64, 9, 65, 82, 83, 84, 66, 67, 68, 69, 8, 70, 10, 72, 73, 74, 75, 76, 77, 105, 106, 107, 108, 109, 110, 111, 112, 113, 114, 115, 116, 117, 118, 119, 120, 121, 122, 123, 124] (by decide +kernel) (by decide +kernel)
set_option maxRecDepth 20000 in
theorem gX11_parseSetup_X11_parseRanged : GoodIn wsX11_parseSetup (wsV RX11 196 RX11 yX11_parseRanged wsX11_parseRanged) := goodIn_app (goodIn_of _ (by decide +kernel)) ggX11_parseSetup_X11_parseRanged
set_option maxRecDepth 20000 in
theorem ggX11_parseSetup_X11_semicolon : GoodIn wsX11_parseSetup wsX11_semicolon := goodIn_r _ [88, 2, 60, 61, 62, 6, 63, 64, 9, 65, 66, 67, 68, 69, 8, 70, 10, 71, 72, 73, 74, 75, 76, 77, 105, 106, 107, 108, 109, 110, 111, 112, 113, 114, 115, 116, 117, 118, 119, 120, 121, 122, 123, 124] (by decide +kernel) (by decide +kernel)
set_option maxRecDepth 20000 in
theorem gX11_parseSetup_X11_semicolon : GoodIn wsX11_parseSetup (wsV RX11 199 RX11 yX11_semicolon wsX11_semicolon) := goodIn_app (goodIn_of _ (by decide +kernel)) ggX11_parseSetup_X11_semicolon
set_option maxRecDepth 20000 in
theorem ggX11_parseSetup_X11_clear : GoodIn wsX11_parseSetup wsX11_clear := goodIn_r _ [92, 1, 105, 106, 107, 108, 109, 110, 111, 112, 113, 114, 115, 116, 117, 118, 119, 120, 121, 122, 123, 124] (by decide +kernel) (by decide +kernel)
set_option maxRecDepth 20000 in
theorem gX11_parseSetup_X11_clear : GoodIn wsX11_parseSetup (wsV RX11 144 RX11 yX11_clear wsX11_clear) := goodIn_app (goodIn_of _ (by decide +kernel)) ggX11_parseSetup_X11_clear
set_option maxRecDepth 20000 in
theorem ggX11_parseSetup_X11_parseNewSibling : GoodIn wsX11_parseSetup wsX11_parseNewSibling := goodIn_r _ [96, 1, 9, 8, 10, 60, 61, 62, 6, 63, 64, 65, 66, 67, 68, 69, 70, 2, 71, 72, 73, 74, 75, 76, 77, 97, 98, 99, 100, 101, 102, 103, 104, 78, 79, 80, 81, 82, 83, 84, 85, 86, 87, 88, 105, 106, 107, 108, 109, 110, 111, 112, 113, 114, 115, 116, 117, 118, 119, 120, 121, 122, 123, 124] (by decide +kernel) (by decide +kernel)
set_option maxRecDepth 20000 in
theorem gX11_parseSetup_X11_parseNewSibling : GoodIn wsX11_parseSetup (wsV RX11 210 RX11 yX11_parseNewSibling wsX11_parseNewSibling) := goodIn_app (goodIn_of _ (by decide +kernel)) ggX11_parseSetup_X11_parseNewSibling
theorem dX11_parseSetup_0 : decode cX11_parseSetup 0 = .ok (.iconst 0, 1) := by decide +kernel
theorem dX11_parseSetup_1 : decode cX11_parseSetup 1 = .ok (.istore_n 1, 1) := by decide +kernel
theorem dX11_parseSetup_2 : decode cX11_parseSetup 2 = .ok (.iload_n 1, 1) := by decide +kernel
theorem dX11_parseSetup_3 : decode cX11_parseSetup 3 = .ok (.sipush 212, 3) := by decide +kernel
theorem dX11_parseSetup_6 : decode cX11_parseSetup 6 = .ok (.if_icmp .ge 16, 3) := by decide +kernel
theorem dX11_parseSetup_9 : decode cX11_parseSetup 9 = .ok (.aload_n 0, 1) := by decide +kernel
theorem dX11_parseSetup_10 : decode cX11_parseSetup 10 = .ok (.getfield 13, 3) := by decide +kernel
theorem dX11_parseSetup_13 : decode cX11_parseSetup 13 = .ok (.iload_n 1, 1) := by decide +kernel
theorem dX11_parseSetup_14 : decode cX11_parseSetup 14 = .ok (.iconst 0, 1) := by decide +kernel
theorem dX11_parseSetup_15 : decode cX11_parseSetup 15 = .ok (.iastore, 1) := by decide +kernel
theorem dX11_parseSetup_16 : decode cX11_parseSetup 16 = .ok (.iinc 1 1, 3) := by decide +kernel
theorem dX11_parseSetup_19 : decode cX11_parseSetup 19 = .ok (.goto (-17), 3) := by decide +kernel
theorem dX11_parseSetup_22 : decode cX11_parseSetup 22 = .ok (.aload_n 0, 1) := by decide +kernel
theorem dX11_parseSetup_23 : decode cX11_parseSetup 23 = .ok (.ldc 202, 2) := by decide +kernel
theorem dX11_parseSetup_25 : decode cX11_parseSetup 25 = .ok (.invokevirtual 204, 3) := by decide +kernel
theorem dX11_parseSetup_28 : decode cX11_parseSetup 28 = .ok (.ifCond .ne 9, 3) := by decide +kernel
theorem dX11_parseSetup_31 : decode cX11_parseSetup 31 = .ok (.aload_n 0, 1) := by decide +kernel
theorem dX11_parseSetup_32 : decode cX11_parseSetup 32 = .ok (.iconst 1, 1) := by decide +kernel
theorem dX11_parseSetup_33 : decode cX11_parseSetup 33 = .ok (.invokevirtual 187, 3) := by decide +kernel
theorem dX11_parseSetup_36 : decode cX11_parseSetup 36 = .ok (.ireturn, 1) := by decide +kernel
theorem dX11_parseSetup_37 : decode cX11_parseSetup 37 = .ok (.aload_n 0, 1) := by decide +kernel
theorem dX11_parseSetup_38 : decode cX11_parseSetup 38 = .ok (.invokevirtual 184, 3) := by decide +kernel
theorem dX11_parseSetup_41 : decode cX11_parseSetup 41 = .ok (.aload_n 0, 1) := by decide +kernel
theorem dX11_parseSetup_42 : decode cX11_parseSetup 42 = .ok (.iconst 0, 1) := by decide +kernel
theorem dX11_parseSetup_43 : decode cX11_parseSetup 43 = .ok (.iconst 1, 1) := by decide +kernel
theorem dX11_parseSetup_44 : decode cX11_parseSetup 44 = .ok (.bipush 24, 2) := by decide +kernel
theorem dX11_parseSetup_46 : decode cX11_parseSetup 46 = .ok (.invokevirtual 196, 3) := by decide +kernel
theorem dX11_parseSetup_49 : decode cX11_parseSetup 49 = .ok (.ifCond .eq 10, 3) := by decide +kernel
theorem dX11_parseSetup_52 : decode cX11_parseSetup 52 = .ok (.aload_n 0, 1) := by decide +kernel
theorem dX11_parseSetup_53 : decode cX11_parseSetup 53 = .ok (.invokevirtual 199, 3) := by decide +kernel
theorem dX11_parseSetup_56 : decode cX11_parseSetup 56 = .ok (.ifCond .ne 5, 3) := by decide +kernel
theorem dX11_parseSetup_59 : decode cX11_parseSetup 59 = .ok (.iconst 0, 1) := by decide +kernel
theorem dX11_parseSetup_60 : decode cX11_parseSetup 60 = .ok (.ireturn, 1) := by decide +kernel
theorem dX11_parseSetup_61 : decode cX11_parseSetup 61 = .ok (.aload_n 0, 1) := by decide +kernel
theorem dX11_parseSetup_62 : decode cX11_parseSetup 62 = .ok (.invokevirtual 144, 3) := by decide +kernel
theorem dX11_parseSetup_65 : decode cX11_parseSetup 65 = .ok (.aload_n 0, 1) := by decide +kernel
theorem dX11_parseSetup_66 : decode cX11_parseSetup 66 = .ok (.ldc 208, 2) := by decide +kernel
theorem dX11_parseSetup_68 : decode cX11_parseSetup 68 = .ok (.invokevirtual 204, 3) := by decide +kernel
theorem dX11_parseSetup_71 : decode cX11_parseSetup 71 = .ok (.ifCond .ne 9, 3) := by decide +kernel
theorem dX11_parseSetup_74 : decode cX11_parseSetup 74 = .ok (.aload_n 0, 1) := by decide +kernel
theorem dX11_parseSetup_75 : decode cX11_parseSetup 75 = .ok (.iconst 1, 1) := by decide +kernel
theorem dX11_parseSetup_76 : decode cX11_parseSetup 76 = .ok (.invokevirtual 187, 3) := by decide +kernel
theorem dX11_parseSetup_79 : decode cX11_parseSetup 79 = .ok (.ireturn, 1) := by decide +kernel
theorem dX11_parseSetup_80 : decode cX11_parseSetup 80 = .ok (.aload_n 0, 1) := by decide +kernel
theorem dX11_parseSetup_81 : decode cX11_parseSetup 81 = .ok (.ldc 208, 2) := by decide +kernel
theorem dX11_parseSetup_83 : decode cX11_parseSetup 83 = .ok (.invokevirtual 204, 3) := by decide +kernel
theorem dX11_parseSetup_86 : decode cX11_parseSetup 86 = .ok (.ifCond .eq 12, 3) := by decide +kernel
theorem dX11_parseSetup_89 : decode cX11_parseSetup 89 = .ok (.aload_n 0, 1) := by decide +kernel
theorem dX11_parseSetup_90 : decode cX11_parseSetup 90 = .ok (.invokevirtual 210, 3) := by decide +kernel
theorem dX11_parseSetup_93 : decode cX11_parseSetup 93 = .ok (.ifCond .ne (-13), 3) := by decide +kernel
theorem dX11_parseSetup_96 : decode cX11_parseSetup 96 = .ok (.iconst 0, 1) := by decide +kernel
theorem dX11_parseSetup_97 : decode cX11_parseSetup 97 = .ok (.ireturn, 1) := by decide +kernel
theorem dX11_parseSetup_98 : decode cX11_parseSetup 98 = .ok (.aload_n 0, 1) := by decide +kernel
theorem dX11_parseSetup_99 : decode cX11_parseSetup 99 = .ok (.getfield 60, 3) := by decide +kernel
theorem dX11_parseSetup_102 : decode cX11_parseSetup 102 = .ok (.ifCond .eq 11, 3) := by decide +kernel
theorem dX11_parseSetup_105 : decode cX11_parseSetup 105 = .ok (.aload_n 0, 1) := by decide +kernel
theorem dX11_parseSetup_106 : decode cX11_parseSetup 106 = .ok (.iconst 1, 1) := by decide +kernel
theorem dX11_parseSetup_107 : decode cX11_parseSetup 107 = .ok (.invokevirtual 187, 3) := by decide +kernel
theorem dX11_parseSetup_110 : decode cX11_parseSetup 110 = .ok (.ifCond .eq 7, 3) := by decide +kernel
theorem dX11_parseSetup_113 : decode cX11_parseSetup 113 = .ok (.iconst 1, 1) := by decide +kernel
theorem dX11_parseSetup_114 : decode cX11_parseSetup 114 = .ok (.goto 4, 3) := by decide +kernel
theorem dX11_parseSetup_117 : decode cX11_parseSetup 117 = .ok (.iconst 0, 1) := by decide +kernel
theorem dX11_parseSetup_118 : decode cX11_parseSetup 118 = .ok (.ireturn, 1) := by decide +kernel
set_option maxRecDepth 20000 in
theorem ggX11_load_X11_copyBlock : GoodIn wsX11_load wsX11_copyBlock := goodIn_r _ [9, 4, 124, 125, 126, 127, 128, 129, 130, 131, 132, 133, 134, 135, 136, 137, 138, 139, 140, 141, 142, 143] (by decide +kernel) (by decide +kernel)
set_option maxRecDepth 20000 in
theorem gX11_load_X11_copyBlock : GoodIn wsX11_load (wsV RX11 101 RX11 yX11_copyBlock wsX11_copyBlock) := goodIn_app (goodIn_of _ (by decide +kernel)) ggX11_load_X11_copyBlock
set_option maxRecDepth 20000 in
theorem ggX11_load_X11_begin : GoodIn wsX11_load wsX11_begin := goodIn_r _ [13, 14, 15, 16, 17, 18, 19, 8, 20, 1, 21, 22, 23, 24, 25, 26, 27, 28, 29, 30, 124, 125, 126, 127, 128, 129, 130, 131, 132, 133, 134, 135, 136, 137, 138, 139, 140, 141, 142, 143] (by decide +kernel) (by decide +kernel)
set_option maxRecDepth 20000 in
theorem gX11_load_X11_begin : GoodIn wsX11_load (wsV RX11 83 RX11 yX11_begin wsX11_begin) := goodIn_app (goodIn_of _ (by decide +kernel)) ggX11_load_X11_begin
set_option maxRecDepth 20000 in
theorem ggX11_load_X11_parseSetup : GoodIn wsX11_load wsX11_parseSetup := goodIn_r _ [34, 4, 23, 35, 36, 37, 8, 38, 16, 22, 21, 39, 40, 41, 42, 43, 44, 45, 46, 47, 48, 49, 50, 51, 52, 53, 54, 55, 56, 57, 58, 59, 60, 61, 62, 63, 64, 65, 66, 67, 68, 69, 70, 71, 72, 73, 74, 75, 76, 77, 78, 79, 80, 81, 82, 83, 84, 85, 86, 87, 88, 89, 90, 91, 14, 15, 17, 18, 19, 20, 1, 24, 25, 26, 27, 28, 29, 30, 92, 93, 94, 95, 96, 97, 98, 99, 100, 101, 102, 103, 104, 105, 106, 107, 108, 109, 110, 111, 112, 113, 114, 115, 116, 117, 118, 124, 125, 126, 127, 128, 129, 130, 131, 132, 133, 134, 135, 136, 137, 138, 139, 140, 141, 142, 143] (by decide +kernel) (by decide +kernel)
set_option maxRecDepth 20000 in
theorem gX11_load_X11_parseSetup : GoodIn wsX11_load (wsV RX11 86 RX11 yX11_parseSetup wsX11_parseSetup) := goodIn_app (goodIn_of _ (by decide +kernel)) ggX11_load_X11_parseSetup
set_option maxRecDepth 20000 in
theorem ggX11_load_X11_fails : GoodIn wsX11_load wsX11_fails := goodIn_r _ [122, 123, 124, 125, 126, 127, 128, 129, 130, 131, 132, 133, 134, 135, 136, 137, 138, 139, 140, 141, 142, 143] (by decide +kernel) (by decide +kernel)
set_option maxRecDepth 20000 in
theorem gX11_load_X11_fails : GoodIn wsX11_load (wsV RX11 171 RX11 yX11_fails wsX11_fails) := goodIn_app (goodIn_of _ (by decide +kernel)) ggX11_load_X11_fails
theorem dX11_load_0 : decode cX11_load 0 = .ok (.aload_n 0, 1) := by decide +kernel
theorem dX11_load_1 : decode cX11_load 1 = .ok (.iconst 0, 1) := by decide +kernel
theorem dX11_load_2 : decode cX11_load 2 = .ok (.bipush 9, 2) := by decide +kernel
theorem dX11_load_4 : decode cX11_load 4 = .ok (.invokevirtual 101, 3) := by decide +kernel
theorem dX11_load_7 : decode cX11_load 7 = .ok (.aload_n 0, 1) := by decide +kernel
theorem dX11_load_8 : decode cX11_load 8 = .ok (.invokevirtual 83, 3) := by decide +kernel
theorem dX11_load_11 : decode cX11_load 11 = .ok (.aload_n 0, 1) := by decide +kernel
theorem dX11_load_12 : decode cX11_load 12 = .ok (.invokevirtual 86, 3) := by decide +kernel
theorem dX11_load_15 : decode cX11_load 15 = .ok (.istore_n 1, 1) := by decide +kernel
theorem dX11_load_16 : decode cX11_load 16 = .ok (.aload_n 0, 1) := by decide +kernel
theorem dX11_load_17 : decode cX11_load 17 = .ok (.iconst 0, 1) := by decide +kernel
theorem dX11_load_18 : decode cX11_load 18 = .ok (.putfield 27, 3) := by decide +kernel
theorem dX11_load_21 : decode cX11_load 21 = .ok (.iload_n 1, 1) := by decide +kernel
theorem dX11_load_22 : decode cX11_load 22 = .ok (.ifCond .ne 10, 3) := by decide +kernel
theorem dX11_load_25 : decode cX11_load 25 = .ok (.aload_n 0, 1) := by decide +kernel
theorem dX11_load_26 : decode cX11_load 26 = .ok (.bipush 9, 2) := by decide +kernel
theorem dX11_load_28 : decode cX11_load 28 = .ok (.iconst 0, 1) := by decide +kernel
theorem dX11_load_29 : decode cX11_load 29 = .ok (.invokevirtual 101, 3) := by decide +kernel
theorem dX11_load_32 : decode cX11_load 32 = .ok (.aload_n 0, 1) := by decide +kernel
theorem dX11_load_33 : decode cX11_load 33 = .ok (.iload_n 1, 1) := by decide +kernel
theorem dX11_load_34 : decode cX11_load 34 = .ok (.ifCond .ne 7, 3) := by decide +kernel
theorem dX11_load_37 : decode cX11_load 37 = .ok (.iconst 1, 1) := by decide +kernel
theorem dX11_load_38 : decode cX11_load 38 = .ok (.goto 4, 3) := by decide +kernel
theorem dX11_load_41 : decode cX11_load 41 = .ok (.iconst 0, 1) := by decide +kernel
theorem dX11_load_42 : decode cX11_load 42 = .ok (.iconst 0, 1) := by decide +kernel
theorem dX11_load_43 : decode cX11_load 43 = .ok (.iconst 0, 1) := by decide +kernel
theorem dX11_load_44 : decode cX11_load 44 = .ok (.invokevirtual 171, 3) := by decide +kernel
theorem dX11_load_47 : decode cX11_load 47 = .ok (.ifCond .eq 5, 3) := by decide +kernel
theorem dX11_load_50 : decode cX11_load 50 = .ok (.iconst 0, 1) := by decide +kernel
theorem dX11_load_51 : decode cX11_load 51 = .ok (.ireturn, 1) := by decide +kernel
theorem dX11_load_52 : decode cX11_load 52 = .ok (.aload_n 0, 1) := by decide +kernel
theorem dX11_load_53 : decode cX11_load 53 = .ok (.iconst 0, 1) := by decide +kernel
theorem dX11_load_54 : decode cX11_load 54 = .ok (.putfield 21, 3) := by decide +kernel
theorem dX11_load_57 : decode cX11_load 57 = .ok (.aload_n 0, 1) := by decide +kernel
theorem dX11_load_58 : decode cX11_load 58 = .ok (.getfield 17, 3) := by decide +kernel
theorem dX11_load_61 : decode cX11_load 61 = .ok (.iconst 0, 1) := by decide +kernel
theorem dX11_load_62 : decode cX11_load 62 = .ok (.iconst 0, 1) := by decide +kernel
theorem dX11_load_63 : decode cX11_load 63 = .ok (.bastore, 1) := by decide +kernel
theorem dX11_load_64 : decode cX11_load 64 = .ok (.aload_n 0, 1) := by decide +kernel
theorem dX11_load_65 : decode cX11_load 65 = .ok (.getfield 17, 3) := by decide +kernel
theorem dX11_load_68 : decode cX11_load 68 = .ok (.iconst 1, 1) := by decide +kernel
theorem dX11_load_69 : decode cX11_load 69 = .ok (.iconst 0, 1) := by decide +kernel
theorem dX11_load_70 : decode cX11_load 70 = .ok (.bastore, 1) := by decide +kernel
theorem dX11_load_71 : decode cX11_load 71 = .ok (.aload_n 0, 1) := by decide +kernel
theorem dX11_load_72 : decode cX11_load 72 = .ok (.getfield 13, 3) := by decide +kernel
theorem dX11_load_75 : decode cX11_load 75 = .ok (.iconst 1, 1) := by decide +kernel
theorem dX11_load_76 : decode cX11_load 76 = .ok (.iaload, 1) := by decide +kernel
theorem dX11_load_77 : decode cX11_load 77 = .ok (.ireturn, 1) := by decide +kernel
theorem dX11_nameOf_0 : decode cX11_nameOf 0 = .ok (.iload_n 0, 1) := by decide +kernel
theorem dX11_nameOf_1 : decode cX11_nameOf 1 = .ok (.tableswitch 64 0 6 #[43, 46, 49, 52, 55, 58, 61], 43) := by decide +kernel
theorem dX11_nameOf_44 : decode cX11_nameOf 44 = .ok (.ldc 213, 2) := by decide +kernel
theorem dX11_nameOf_46 : decode cX11_nameOf 46 = .ok (.areturn, 1) := by decide +kernel
theorem dX11_nameOf_47 : decode cX11_nameOf 47 = .ok (.ldc 215, 2) := by decide +kernel
theorem dX11_nameOf_49 : decode cX11_nameOf 49 = .ok (.areturn, 1) := by decide +kernel
theorem dX11_nameOf_50 : decode cX11_nameOf 50 = .ok (.ldc 217, 2) := by decide +kernel
theorem dX11_nameOf_52 : decode cX11_nameOf 52 = .ok (.areturn, 1) := by decide +kernel
theorem dX11_nameOf_53 : decode cX11_nameOf 53 = .ok (.ldc 219, 2) := by decide +kernel
theorem dX11_nameOf_55 : decode cX11_nameOf 55 = .ok (.areturn, 1) := by decide +kernel
theorem dX11_nameOf_56 : decode cX11_nameOf 56 = .ok (.ldc 220, 2) := by decide +kernel
theorem dX11_nameOf_58 : decode cX11_nameOf 58 = .ok (.areturn, 1) := by decide +kernel
theorem dX11_nameOf_59 : decode cX11_nameOf 59 = .ok (.ldc 222, 2) := by decide +kernel
theorem dX11_nameOf_61 : decode cX11_nameOf 61 = .ok (.areturn, 1) := by decide +kernel
theorem dX11_nameOf_62 : decode cX11_nameOf 62 = .ok (.ldc 224, 2) := by decide +kernel
theorem dX11_nameOf_64 : decode cX11_nameOf 64 = .ok (.areturn, 1) := by decide +kernel
theorem dX11_nameOf_65 : decode cX11_nameOf 65 = .ok (.ldc 226, 2) := by decide +kernel
theorem dX11_nameOf_67 : decode cX11_nameOf 67 = .ok (.areturn, 1) := by decide +kernel
set_option maxRecDepth 20000 in
theorem ggX11_commandHere_X11_nameOf : GoodIn wsX11_commandHere wsX11_nameOf := goodIn_r _ [4] (by decide +kernel) (by decide +kernel)
set_option maxRecDepth 20000 in
theorem gX11_commandHere_X11_nameOf : GoodIn wsX11_commandHere (va_wsS RX11 228 yX11_nameOf wsX11_nameOf) := goodIn_app (goodIn_of _ (by decide +kernel)) ggX11_commandHere_X11_nameOf
set_option maxRecDepth 20000 in
theorem ggX11_commandHere_X11_isWord : GoodIn wsX11_commandHere wsX11_isWord := goodIn_r _ [8, 9, 10, 11, 12, 13, 14, 15, 16, 17, 18, 19, 20, 21, 22, 23, 24, 25, 26, 27, 28, 29, 30, 31, 32, 33, 34, 35, 36, 37, 38, 39, 40, 41, 42, 43, 44, 45, 46, 47, 48, 49, 50, 51, 52, 53, 54, 55, 56, 57, 58, 59, 60, 61, 62, 63, 64, 65, 66, 67, 68, 69, 70, 71, 72, 73, 74, 75, 76, 77, 78, 79, 80, 81] (by decide +kernel) (by decide +kernel)
set_option maxRecDepth 20000 in
theorem gX11_commandHere_X11_isWord : GoodIn wsX11_commandHere (wsV RX11 204 RX11 yX11_isWord wsX11_isWord) := goodIn_app (goodIn_of _ (by decide +kernel)) ggX11_commandHere_X11_isWord
theorem dX11_commandHere_0 : decode cX11_commandHere 0 = .ok (.iconst 0, 1) := by decide +kernel
theorem dX11_commandHere_1 : decode cX11_commandHere 1 = .ok (.istore_n 1, 1) := by decide +kernel
theorem dX11_commandHere_2 : decode cX11_commandHere 2 = .ok (.iload_n 1, 1) := by decide +kernel
theorem dX11_commandHere_3 : decode cX11_commandHere 3 = .ok (.bipush 7, 2) := by decide +kernel
theorem dX11_commandHere_5 : decode cX11_commandHere 5 = .ok (.if_icmp .gt 22, 3) := by decide +kernel
theorem dX11_commandHere_8 : decode cX11_commandHere 8 = .ok (.aload_n 0, 1) := by decide +kernel
theorem dX11_commandHere_9 : decode cX11_commandHere 9 = .ok (.iload_n 1, 1) := by decide +kernel
theorem dX11_commandHere_10 : decode cX11_commandHere 10 = .ok (.invokestatic 228, 3) := by decide +kernel
theorem dX11_commandHere_13 : decode cX11_commandHere 13 = .ok (.invokevirtual 204, 3) := by decide +kernel
theorem dX11_commandHere_16 : decode cX11_commandHere 16 = .ok (.ifCond .eq 5, 3) := by decide +kernel
theorem dX11_commandHere_19 : decode cX11_commandHere 19 = .ok (.iload_n 1, 1) := by decide +kernel
theorem dX11_commandHere_20 : decode cX11_commandHere 20 = .ok (.ireturn, 1) := by decide +kernel
theorem dX11_commandHere_21 : decode cX11_commandHere 21 = .ok (.iinc 1 1, 3) := by decide +kernel
theorem dX11_commandHere_24 : decode cX11_commandHere 24 = .ok (.goto (-22), 3) := by decide +kernel
theorem dX11_commandHere_27 : decode cX11_commandHere 27 = .ok (.iconst (-1), 1) := by decide +kernel
theorem dX11_commandHere_28 : decode cX11_commandHere 28 = .ok (.ireturn, 1) := by decide +kernel
set_option maxRecDepth 20000 in
theorem ggX11_parseNumber_X11_wrong : GoodIn wsX11_parseNumber wsX11_wrong := goodIn_r _ [8, 9, 10, 11, 25, 26, 27, 28, 29, 30, 31, 32, 33, 34, 35, 36, 37, 38, 39, 40, 41, 42, 43, 44] (by decide +kernel) (by decide +kernel)
set_option maxRecDepth 20000 in
theorem gX11_parseNumber_X11_wrong : GoodIn wsX11_parseNumber (wsV RX11 187 RX11 yX11_wrong wsX11_wrong) := goodIn_app (goodIn_of _ (by decide +kernel)) ggX11_parseNumber_X11_wrong
set_option maxRecDepth 20000 in
theorem ggX11_parseNumber_X11_token : GoodIn wsX11_parseNumber wsX11_token := goodIn_r _ [15, 16, 17, 18, 10, 1, 3, 19, 20, 7, 21, 22, 23, 24, 25, 26, 27, 28, 29, 30, 31, 32, 33, 34, 35, 36, 37, 38, 39, 40, 41, 42, 43, 44] (by decide +kernel) (by decide +kernel)
set_option maxRecDepth 20000 in
theorem gX11_parseNumber_X11_token : GoodIn wsX11_parseNumber (wsV RX11 184 RX11 yX11_token wsX11_token) := goodIn_app (goodIn_of _ (by decide +kernel)) ggX11_parseNumber_X11_token
theorem dX11_parseNumber_0 : decode cX11_parseNumber 0 = .ok (.aload_n 0, 1) := by decide +kernel
theorem dX11_parseNumber_1 : decode cX11_parseNumber 1 = .ok (.getfield 60, 3) := by decide +kernel
theorem dX11_parseNumber_4 : decode cX11_parseNumber 4 = .ok (.iconst 2, 1) := by decide +kernel
theorem dX11_parseNumber_5 : decode cX11_parseNumber 5 = .ok (.if_icmp .eq 9, 3) := by decide +kernel
theorem dX11_parseNumber_8 : decode cX11_parseNumber 8 = .ok (.aload_n 0, 1) := by decide +kernel
theorem dX11_parseNumber_9 : decode cX11_parseNumber 9 = .ok (.iconst 1, 1) := by decide +kernel
theorem dX11_parseNumber_10 : decode cX11_parseNumber 10 = .ok (.invokevirtual 187, 3) := by decide +kernel
theorem dX11_parseNumber_13 : decode cX11_parseNumber 13 = .ok (.ireturn, 1) := by decide +kernel
theorem dX11_parseNumber_14 : decode cX11_parseNumber 14 = .ok (.aload_n 0, 1) := by decide +kernel
theorem dX11_parseNumber_15 : decode cX11_parseNumber 15 = .ok (.getfield 69, 3) := by decide +kernel
theorem dX11_parseNumber_18 : decode cX11_parseNumber 18 = .ok (.iload_n 1, 1) := by decide +kernel
theorem dX11_parseNumber_19 : decode cX11_parseNumber 19 = .ok (.aload_n 0, 1) := by decide +kernel
theorem dX11_parseNumber_20 : decode cX11_parseNumber 20 = .ok (.getfield 66, 3) := by decide +kernel
theorem dX11_parseNumber_23 : decode cX11_parseNumber 23 = .ok (.iastore, 1) := by decide +kernel
theorem dX11_parseNumber_24 : decode cX11_parseNumber 24 = .ok (.aload_n 0, 1) := by decide +kernel
theorem dX11_parseNumber_25 : decode cX11_parseNumber 25 = .ok (.invokevirtual 184, 3) := by decide +kernel
theorem dX11_parseNumber_28 : decode cX11_parseNumber 28 = .ok (.iconst 1, 1) := by decide +kernel
theorem dX11_parseNumber_29 : decode cX11_parseNumber 29 = .ok (.ireturn, 1) := by decide +kernel
set_option maxRecDepth 20000 in
theorem ggX11_parseSibling_X11_isShortWord : GoodIn wsX11_parseSibling wsX11_isShortWord := goodIn_r _ [8, 9, 3, 2, 10, 11, 12, 7, 13, 14, 15, 34, 35, 36, 37, 38, 39, 40, 41, 42, 43, 44, 45, 46, 47, 48, 49, 50, 51, 52, 53] (by decide +kernel) (by decide +kernel)
set_option maxRecDepth 20000 in
theorem gX11_parseSibling_X11_isShortWord : GoodIn wsX11_parseSibling (wsV RX11 190 RX11 yX11_isShortWord wsX11_isShortWord) := goodIn_app (goodIn_of _ (by decide +kernel)) ggX11_parseSibling_X11_isShortWord
set_option maxRecDepth 20000 in
theorem ggX11_parseSibling_X11_siblingNamed : GoodIn wsX11_parseSibling wsX11_siblingNamed := goodIn_r _ [19, 20, 21, 34, 35, 36, 37, 38, 39, 40, 41, 42, 43, 44, 45, 46, 47, 48, 49, 50, 51, 52, 53] (by decide +kernel) (by decide +kernel)
set_option maxRecDepth 20000 in
theorem gX11_parseSibling_X11_siblingNamed : GoodIn wsX11_parseSibling (wsV RX11 193 RX11 yX11_siblingNamed wsX11_siblingNamed) := goodIn_app (goodIn_of _ (by decide +kernel)) ggX11_parseSibling_X11_siblingNamed
set_option maxRecDepth 20000 in
theorem ggX11_parseSibling_X11_wrong : GoodIn wsX11_parseSibling wsX11_wrong := goodIn_r _ [13, 14, 2, 15, 34, 35, 36, 37, 38, 39, 40, 41, 42, 43, 44, 45, 46, 47, 48, 49, 50, 51, 52, 53] (by decide +kernel) (by decide +kernel)
set_option maxRecDepth 20000 in
theorem gX11_parseSibling_X11_wrong : GoodIn wsX11_parseSibling (wsV RX11 187 RX11 yX11_wrong wsX11_wrong) := goodIn_app (goodIn_of _ (by decide +kernel)) ggX11_parseSibling_X11_wrong
set_option maxRecDepth 20000 in
theorem ggX11_parseSibling_X11_token : GoodIn wsX11_parseSibling wsX11_token := goodIn_r _ [25, 3, 26, 21, 2, 9, 27, 28, 29, 7, 30, 31, 32, 33, 34, 35, 36, 37, 38, 39, 40, 41, 42, 43, 44, 45, 46, 47, 48, 49, 50, 51, 52, 53] (by decide +kernel) (by decide +kernel)
set_option maxRecDepth 20000 in
theorem gX11_parseSibling_X11_token : GoodIn wsX11_parseSibling (wsV RX11 184 RX11 yX11_token wsX11_token) := goodIn_app (goodIn_of _ (by decide +kernel)) ggX11_parseSibling_X11_token
theorem dX11_parseSibling_0 : decode cX11_parseSibling 0 = .ok (.aload_n 0, 1) := by decide +kernel
theorem dX11_parseSibling_1 : decode cX11_parseSibling 1 = .ok (.invokevirtual 190, 3) := by decide +kernel
theorem dX11_parseSibling_4 : decode cX11_parseSibling 4 = .ok (.ifCond .ne 5, 3) := by decide +kernel
theorem dX11_parseSibling_7 : decode cX11_parseSibling 7 = .ok (.iconst 0, 1) := by decide +kernel
theorem dX11_parseSibling_8 : decode cX11_parseSibling 8 = .ok (.ireturn, 1) := by decide +kernel
theorem dX11_parseSibling_9 : decode cX11_parseSibling 9 = .ok (.aload_n 0, 1) := by decide +kernel
theorem dX11_parseSibling_10 : decode cX11_parseSibling 10 = .ok (.getfield 69, 3) := by decide +kernel
theorem dX11_parseSibling_13 : decode cX11_parseSibling 13 = .ok (.iload_n 1, 1) := by decide +kernel
theorem dX11_parseSibling_14 : decode cX11_parseSibling 14 = .ok (.aload_n 0, 1) := by decide +kernel
theorem dX11_parseSibling_15 : decode cX11_parseSibling 15 = .ok (.aload_n 0, 1) := by decide +kernel
theorem dX11_parseSibling_16 : decode cX11_parseSibling 16 = .ok (.getfield 63, 3) := by decide +kernel
theorem dX11_parseSibling_19 : decode cX11_parseSibling 19 = .ok (.aload_n 0, 1) := by decide +kernel
theorem dX11_parseSibling_20 : decode cX11_parseSibling 20 = .ok (.getfield 57, 3) := by decide +kernel
theorem dX11_parseSibling_23 : decode cX11_parseSibling 23 = .ok (.aload_n 0, 1) := by decide +kernel
theorem dX11_parseSibling_24 : decode cX11_parseSibling 24 = .ok (.getfield 63, 3) := by decide +kernel
theorem dX11_parseSibling_27 : decode cX11_parseSibling 27 = .ok (.isub, 1) := by decide +kernel
theorem dX11_parseSibling_28 : decode cX11_parseSibling 28 = .ok (.invokevirtual 193, 3) := by decide +kernel
theorem dX11_parseSibling_31 : decode cX11_parseSibling 31 = .ok (.iastore, 1) := by decide +kernel
theorem dX11_parseSibling_32 : decode cX11_parseSibling 32 = .ok (.aload_n 0, 1) := by decide +kernel
theorem dX11_parseSibling_33 : decode cX11_parseSibling 33 = .ok (.getfield 69, 3) := by decide +kernel
theorem dX11_parseSibling_36 : decode cX11_parseSibling 36 = .ok (.iload_n 1, 1) := by decide +kernel
theorem dX11_parseSibling_37 : decode cX11_parseSibling 37 = .ok (.iaload, 1) := by decide +kernel
theorem dX11_parseSibling_38 : decode cX11_parseSibling 38 = .ok (.iconst (-1), 1) := by decide +kernel
theorem dX11_parseSibling_39 : decode cX11_parseSibling 39 = .ok (.if_icmp .ne 9, 3) := by decide +kernel
theorem dX11_parseSibling_42 : decode cX11_parseSibling 42 = .ok (.aload_n 0, 1) := by decide +kernel
theorem dX11_parseSibling_43 : decode cX11_parseSibling 43 = .ok (.iconst 3, 1) := by decide +kernel
theorem dX11_parseSibling_44 : decode cX11_parseSibling 44 = .ok (.invokevirtual 187, 3) := by decide +kernel
theorem dX11_parseSibling_47 : decode cX11_parseSibling 47 = .ok (.ireturn, 1) := by decide +kernel
theorem dX11_parseSibling_48 : decode cX11_parseSibling 48 = .ok (.aload_n 0, 1) := by decide +kernel
theorem dX11_parseSibling_49 : decode cX11_parseSibling 49 = .ok (.invokevirtual 184, 3) := by decide +kernel
theorem dX11_parseSibling_52 : decode cX11_parseSibling 52 = .ok (.iconst 1, 1) := by decide +kernel
theorem dX11_parseSibling_53 : decode cX11_parseSibling 53 = .ok (.ireturn, 1) := by decide +kernel
set_option maxRecDepth 20000 in
theorem ggX11_parseArguments_X11_parseSibling : GoodIn wsX11_parseArguments wsX11_parseSibling := goodIn_r _ [5, 6, 7, 8, 9, 10, 11, 4, 12, 13, 14, 15, 16, 17, 18, 19, 20, 21, 22, 23, 24, 25, 26, 27, 28, 29, 30, 31, 32, 33, 34, 35, 36, 37, 42, 43, 44, 45, 46, 47, 48, 49, 50, 51, 52, 53, 54, 55, 56, 57, 58, 59, 60, 61] (by decide +kernel) (by decide +kernel)
set_option maxRecDepth 20000 in
theorem gX11_parseArguments_X11_parseSibling : GoodIn wsX11_parseArguments (wsV RX11 232 RX11 yX11_parseSibling wsX11_parseSibling) := goodIn_app (goodIn_of _ (by decide +kernel)) ggX11_parseArguments_X11_parseSibling
set_option maxRecDepth 20000 in
theorem ggX11_parseArguments_X11_parseNumber : GoodIn wsX11_parseArguments wsX11_parseNumber := goodIn_r _ [41, 13, 6, 31, 14, 15, 16, 4, 17, 18, 7, 19, 26, 27, 28, 29, 8, 30, 25, 32, 33, 34, 35, 36, 37, 42, 43, 44, 45, 46, 47, 48, 49, 50, 51, 52, 53, 54, 55, 56, 57, 58, 59, 60, 61] (by decide +kernel) (by decide +kernel)
set_option maxRecDepth 20000 in
theorem gX11_parseArguments_X11_parseNumber : GoodIn wsX11_parseArguments (wsV RX11 235 RX11 yX11_parseNumber wsX11_parseNumber) := goodIn_app (goodIn_of _ (by decide +kernel)) ggX11_parseArguments_X11_parseNumber
theorem dX11_parseArguments_0 : decode cX11_parseArguments 0 = .ok (.iload_n 1, 1) := by decide +kernel
theorem dX11_parseArguments_1 : decode cX11_parseArguments 1 = .ok (.tableswitch 125 0 5 #[39, 73, 99, 39, 99, 123], 39) := by decide +kernel
theorem dX11_parseArguments_40 : decode cX11_parseArguments 40 = .ok (.aload_n 0, 1) := by decide +kernel
theorem dX11_parseArguments_41 : decode cX11_parseArguments 41 = .ok (.iload_n 2, 1) := by decide +kernel
theorem dX11_parseArguments_42 : decode cX11_parseArguments 42 = .ok (.invokevirtual 232, 3) := by decide +kernel
theorem dX11_parseArguments_45 : decode cX11_parseArguments 45 = .ok (.ifCond .eq 27, 3) := by decide +kernel
theorem dX11_parseArguments_48 : decode cX11_parseArguments 48 = .ok (.aload_n 0, 1) := by decide +kernel
theorem dX11_parseArguments_49 : decode cX11_parseArguments 49 = .ok (.iload_n 2, 1) := by decide +kernel
theorem dX11_parseArguments_50 : decode cX11_parseArguments 50 = .ok (.iconst 1, 1) := by decide +kernel
theorem dX11_parseArguments_51 : decode cX11_parseArguments 51 = .ok (.iadd, 1) := by decide +kernel
theorem dX11_parseArguments_52 : decode cX11_parseArguments 52 = .ok (.invokevirtual 235, 3) := by decide +kernel
theorem dX11_parseArguments_55 : decode cX11_parseArguments 55 = .ok (.ifCond .eq 17, 3) := by decide +kernel
theorem dX11_parseArguments_58 : decode cX11_parseArguments 58 = .ok (.aload_n 0, 1) := by decide +kernel
theorem dX11_parseArguments_59 : decode cX11_parseArguments 59 = .ok (.iload_n 2, 1) := by decide +kernel
theorem dX11_parseArguments_60 : decode cX11_parseArguments 60 = .ok (.iconst 2, 1) := by decide +kernel
theorem dX11_parseArguments_61 : decode cX11_parseArguments 61 = .ok (.iadd, 1) := by decide +kernel
theorem dX11_parseArguments_62 : decode cX11_parseArguments 62 = .ok (.invokevirtual 235, 3) := by decide +kernel
theorem dX11_parseArguments_65 : decode cX11_parseArguments 65 = .ok (.ifCond .eq 7, 3) := by decide +kernel
theorem dX11_parseArguments_68 : decode cX11_parseArguments 68 = .ok (.iconst 1, 1) := by decide +kernel
theorem dX11_parseArguments_69 : decode cX11_parseArguments 69 = .ok (.goto 4, 3) := by decide +kernel
theorem dX11_parseArguments_72 : decode cX11_parseArguments 72 = .ok (.iconst 0, 1) := by decide +kernel
theorem dX11_parseArguments_73 : decode cX11_parseArguments 73 = .ok (.ireturn, 1) := by decide +kernel
theorem dX11_parseArguments_74 : decode cX11_parseArguments 74 = .ok (.aload_n 0, 1) := by decide +kernel
theorem dX11_parseArguments_75 : decode cX11_parseArguments 75 = .ok (.iload_n 2, 1) := by decide +kernel
theorem dX11_parseArguments_76 : decode cX11_parseArguments 76 = .ok (.iconst 1, 1) := by decide +kernel
theorem dX11_parseArguments_77 : decode cX11_parseArguments 77 = .ok (.iadd, 1) := by decide +kernel
theorem dX11_parseArguments_78 : decode cX11_parseArguments 78 = .ok (.invokevirtual 235, 3) := by decide +kernel
theorem dX11_parseArguments_81 : decode cX11_parseArguments 81 = .ok (.ifCond .eq 17, 3) := by decide +kernel
theorem dX11_parseArguments_84 : decode cX11_parseArguments 84 = .ok (.aload_n 0, 1) := by decide +kernel
theorem dX11_parseArguments_85 : decode cX11_parseArguments 85 = .ok (.iload_n 2, 1) := by decide +kernel
theorem dX11_parseArguments_86 : decode cX11_parseArguments 86 = .ok (.iconst 2, 1) := by decide +kernel
theorem dX11_parseArguments_87 : decode cX11_parseArguments 87 = .ok (.iadd, 1) := by decide +kernel
theorem dX11_parseArguments_88 : decode cX11_parseArguments 88 = .ok (.invokevirtual 235, 3) := by decide +kernel
theorem dX11_parseArguments_91 : decode cX11_parseArguments 91 = .ok (.ifCond .eq 7, 3) := by decide +kernel
theorem dX11_parseArguments_94 : decode cX11_parseArguments 94 = .ok (.iconst 1, 1) := by decide +kernel
theorem dX11_parseArguments_95 : decode cX11_parseArguments 95 = .ok (.goto 4, 3) := by decide +kernel
theorem dX11_parseArguments_98 : decode cX11_parseArguments 98 = .ok (.iconst 0, 1) := by decide +kernel
theorem dX11_parseArguments_99 : decode cX11_parseArguments 99 = .ok (.ireturn, 1) := by decide +kernel
theorem dX11_parseArguments_100 : decode cX11_parseArguments 100 = .ok (.aload_n 0, 1) := by decide +kernel
theorem dX11_parseArguments_101 : decode cX11_parseArguments 101 = .ok (.iload_n 2, 1) := by decide +kernel
theorem dX11_parseArguments_102 : decode cX11_parseArguments 102 = .ok (.invokevirtual 232, 3) := by decide +kernel
theorem dX11_parseArguments_105 : decode cX11_parseArguments 105 = .ok (.ifCond .eq 17, 3) := by decide +kernel
theorem dX11_parseArguments_108 : decode cX11_parseArguments 108 = .ok (.aload_n 0, 1) := by decide +kernel
theorem dX11_parseArguments_109 : decode cX11_parseArguments 109 = .ok (.iload_n 2, 1) := by decide +kernel
theorem dX11_parseArguments_110 : decode cX11_parseArguments 110 = .ok (.iconst 1, 1) := by decide +kernel
theorem dX11_parseArguments_111 : decode cX11_parseArguments 111 = .ok (.iadd, 1) := by decide +kernel
theorem dX11_parseArguments_112 : decode cX11_parseArguments 112 = .ok (.invokevirtual 232, 3) := by decide +kernel
theorem dX11_parseArguments_115 : decode cX11_parseArguments 115 = .ok (.ifCond .eq 7, 3) := by decide +kernel
theorem dX11_parseArguments_118 : decode cX11_parseArguments 118 = .ok (.iconst 1, 1) := by decide +kernel
theorem dX11_parseArguments_119 : decode cX11_parseArguments 119 = .ok (.goto 4, 3) := by decide +kernel
theorem dX11_parseArguments_122 : decode cX11_parseArguments 122 = .ok (.iconst 0, 1) := by decide +kernel
theorem dX11_parseArguments_123 : decode cX11_parseArguments 123 = .ok (.ireturn, 1) := by decide +kernel
theorem dX11_parseArguments_124 : decode cX11_parseArguments 124 = .ok (.iconst 1, 1) := by decide +kernel
theorem dX11_parseArguments_125 : decode cX11_parseArguments 125 = .ok (.ireturn, 1) := by decide +kernel
theorem dX11_parseArguments_126 : decode cX11_parseArguments 126 = .ok (.aload_n 0, 1) := by decide +kernel
theorem dX11_parseArguments_127 : decode cX11_parseArguments 127 = .ok (.iload_n 2, 1) := by decide +kernel
theorem dX11_parseArguments_128 : decode cX11_parseArguments 128 = .ok (.invokevirtual 232, 3) := by decide +kernel
theorem dX11_parseArguments_131 : decode cX11_parseArguments 131 = .ok (.ireturn, 1) := by decide +kernel
set_option maxRecDepth 20000 in
theorem ggX11_parseScript_X11_commandHere : GoodIn wsX11_parseScript wsX11_commandHere := goodIn_r _ [7, 8, 9, 6, 10, 11, 12, 13, 14, 1, 15, 16, 17, 18, 19, 20, 21, 22, 23, 24, 25, 26, 27, 28, 29, 30, 31, 32, 33, 34, 35, 36, 37, 38, 39, 40, 41, 42, 43, 44, 45, 46, 47, 48, 49, 50, 51, 52, 53, 54, 55, 56, 57, 58, 59, 60, 61, 62, 63, 64, 65, 66, 110, 111, 112, 113, 114, 115, 116, 117, 118, 119, 120, 121, 122, 123, 124, 125, 126, 127, 128, 129] (by decide +kernel) (by decide +kernel)
set_option maxRecDepth 20000 in
theorem gX11_parseScript_X11_commandHere : GoodIn wsX11_parseScript (wsV RX11 238 RX11 yX11_commandHere wsX11_commandHere) := goodIn_app (goodIn_of _ (by decide +kernel)) ggX11_parseScript_X11_commandHere
set_option maxRecDepth 20000 in
theorem ggX11_parseScript_X11_wrong : GoodIn wsX11_parseScript wsX11_wrong := goodIn_r _ [70, 71, 16, 72, 110, 111, 112, 113, 114, 115, 116, 117, 118, 119, 120, 121, 122, 123, 124, 125, 126, 127, 128, 129] (by decide +kernel) (by decide +kernel)
set_option maxRecDepth 20000 in
theorem gX11_parseScript_X11_wrong : GoodIn wsX11_parseScript (wsV RX11 187 RX11 yX11_wrong wsX11_wrong) := goodIn_app (goodIn_of _ (by decide +kernel)) ggX11_parseScript_X11_wrong
set_option maxRecDepth 20000 in
theorem ggX11_parseScript_X11_token : GoodIn wsX11_parseScript wsX11_token := goodIn_r _ [76, 15, 77, 17, 16, 1, 78, 79, 80, 6, 81, 82, 83, 84, 110, 111, 112, 113, 114, 115, 116, 117, 118, 119, 120, 121, 122, 123, 124, 125, 126, 127, 128, 129] (by decide +kernel) (by decide +kernel)
set_option maxRecDepth 20000 in
theorem gX11_parseScript_X11_token : GoodIn wsX11_parseScript (wsV RX11 184 RX11 yX11_token wsX11_token) := goodIn_app (goodIn_of _ (by decide +kernel)) ggX11_parseScript_X11_token
set_option maxRecDepth 20000 in
theorem ggX11_parseScript_X11_parseArguments : GoodIn wsX11_parseScript wsX11_parseArguments := goodIn_r _ [88, 89, 90, 91, 6, 92, 2, 16, 15, 93, 94, 95, 96, 1, 67, 68, 69, 70, 71, 72, 97, 98, 99, 100, 101, 17, 73, 74, 75, 76, 77, 78, 79, 80, 81, 82, 83, 84, 102, 103, 104, 105, 110, 111, 112, 113, 114, 115, 116, 117, 118, 119, 120, 121, 122, 123, 124, 125, 126, 127, 128, 129] (by decide +kernel) (by decide +kernel)
set_option maxRecDepth 20000 in
theorem gX11_parseScript_X11_parseArguments : GoodIn wsX11_parseScript (wsV RX11 241 RX11 yX11_parseArguments wsX11_parseArguments) := goodIn_app (goodIn_of _ (by decide +kernel)) ggX11_parseScript_X11_parseArguments
set_option maxRecDepth 20000 in
theorem ggX11_parseScript_X11_semicolon : GoodIn wsX11_parseScript wsX11_semicolon := goodIn_r _ [109, 1, 67, 68, 69, 6, 70, 71, 16, 72, 73, 74, 75, 76, 15, 77, 17, 78, 79, 80, 81, 82, 83, 84, 110, 111, 112, 113, 114, 115, 116, 117, 118, 119, 120, 121, 122, 123, 124, 125, 126, 127, 128, 129] (by decide +kernel) (by decide +kernel)
set_option maxRecDepth 20000 in
theorem gX11_parseScript_X11_semicolon : GoodIn wsX11_parseScript (wsV RX11 199 RX11 yX11_semicolon wsX11_semicolon) := goodIn_app (goodIn_of _ (by decide +kernel)) ggX11_parseScript_X11_semicolon
theorem dX11_parseScript_0 : decode cX11_parseScript 0 = .ok (.iconst 0, 1) := by decide +kernel
theorem dX11_parseScript_1 : decode cX11_parseScript 1 = .ok (.istore_n 1, 1) := by decide +kernel
theorem dX11_parseScript_2 : decode cX11_parseScript 2 = .ok (.aload_n 0, 1) := by decide +kernel
theorem dX11_parseScript_3 : decode cX11_parseScript 3 = .ok (.getfield 60, 3) := by decide +kernel
theorem dX11_parseScript_6 : decode cX11_parseScript 6 = .ok (.ifCond .eq 88, 3) := by decide +kernel
theorem dX11_parseScript_9 : decode cX11_parseScript 9 = .ok (.aload_n 0, 1) := by decide +kernel
theorem dX11_parseScript_10 : decode cX11_parseScript 10 = .ok (.invokevirtual 238, 3) := by decide +kernel
theorem dX11_parseScript_13 : decode cX11_parseScript 13 = .ok (.istore_n 2, 1) := by decide +kernel
theorem dX11_parseScript_14 : decode cX11_parseScript 14 = .ok (.iload_n 2, 1) := by decide +kernel
theorem dX11_parseScript_15 : decode cX11_parseScript 15 = .ok (.iconst (-1), 1) := by decide +kernel
theorem dX11_parseScript_16 : decode cX11_parseScript 16 = .ok (.if_icmp .eq 25, 3) := by decide +kernel
theorem dX11_parseScript_19 : decode cX11_parseScript 19 = .ok (.iload_n 1, 1) := by decide +kernel
theorem dX11_parseScript_20 : decode cX11_parseScript 20 = .ok (.bipush 30, 2) := by decide +kernel
theorem dX11_parseScript_22 : decode cX11_parseScript 22 = .ok (.if_icmp .lt 11, 3) := by decide +kernel
theorem dX11_parseScript_25 : decode cX11_parseScript 25 = .ok (.aload_n 0, 1) := by decide +kernel
theorem dX11_parseScript_26 : decode cX11_parseScript 26 = .ok (.iconst 4, 1) := by decide +kernel
theorem dX11_parseScript_27 : decode cX11_parseScript 27 = .ok (.invokevirtual 187, 3) := by decide +kernel
theorem dX11_parseScript_30 : decode cX11_parseScript 30 = .ok (.ifCond .eq 7, 3) := by decide +kernel
theorem dX11_parseScript_33 : decode cX11_parseScript 33 = .ok (.iconst 1, 1) := by decide +kernel
theorem dX11_parseScript_34 : decode cX11_parseScript 34 = .ok (.goto 12, 3) := by decide +kernel
theorem dX11_parseScript_37 : decode cX11_parseScript 37 = .ok (.iconst 0, 1) := by decide +kernel
theorem dX11_parseScript_38 : decode cX11_parseScript 38 = .ok (.goto 8, 3) := by decide +kernel
theorem dX11_parseScript_41 : decode cX11_parseScript 41 = .ok (.aload_n 0, 1) := by decide +kernel
theorem dX11_parseScript_42 : decode cX11_parseScript 42 = .ok (.iconst 1, 1) := by decide +kernel
theorem dX11_parseScript_43 : decode cX11_parseScript 43 = .ok (.invokevirtual 187, 3) := by decide +kernel
theorem dX11_parseScript_46 : decode cX11_parseScript 46 = .ok (.istore_n 3, 1) := by decide +kernel
theorem dX11_parseScript_47 : decode cX11_parseScript 47 = .ok (.iload_n 3, 1) := by decide +kernel
theorem dX11_parseScript_48 : decode cX11_parseScript 48 = .ok (.ifCond .ne 5, 3) := by decide +kernel
theorem dX11_parseScript_51 : decode cX11_parseScript 51 = .ok (.iconst (-1), 1) := by decide +kernel
theorem dX11_parseScript_52 : decode cX11_parseScript 52 = .ok (.ireturn, 1) := by decide +kernel
theorem dX11_parseScript_53 : decode cX11_parseScript 53 = .ok (.aload_n 0, 1) := by decide +kernel
theorem dX11_parseScript_54 : decode cX11_parseScript 54 = .ok (.invokevirtual 184, 3) := by decide +kernel
theorem dX11_parseScript_57 : decode cX11_parseScript 57 = .ok (.aload_n 0, 1) := by decide +kernel
theorem dX11_parseScript_58 : decode cX11_parseScript 58 = .ok (.getfield 69, 3) := by decide +kernel
theorem dX11_parseScript_61 : decode cX11_parseScript 61 = .ok (.iload_n 1, 1) := by decide +kernel
theorem dX11_parseScript_62 : decode cX11_parseScript 62 = .ok (.iconst 4, 1) := by decide +kernel
theorem dX11_parseScript_63 : decode cX11_parseScript 63 = .ok (.imul, 1) := by decide +kernel
theorem dX11_parseScript_64 : decode cX11_parseScript 64 = .ok (.iload_n 2, 1) := by decide +kernel
theorem dX11_parseScript_65 : decode cX11_parseScript 65 = .ok (.iastore, 1) := by decide +kernel
theorem dX11_parseScript_66 : decode cX11_parseScript 66 = .ok (.aload_n 0, 1) := by decide +kernel
theorem dX11_parseScript_67 : decode cX11_parseScript 67 = .ok (.iload_n 2, 1) := by decide +kernel
theorem dX11_parseScript_68 : decode cX11_parseScript 68 = .ok (.iload_n 1, 1) := by decide +kernel
theorem dX11_parseScript_69 : decode cX11_parseScript 69 = .ok (.iconst 4, 1) := by decide +kernel
theorem dX11_parseScript_70 : decode cX11_parseScript 70 = .ok (.imul, 1) := by decide +kernel
theorem dX11_parseScript_71 : decode cX11_parseScript 71 = .ok (.iconst 1, 1) := by decide +kernel
theorem dX11_parseScript_72 : decode cX11_parseScript 72 = .ok (.iadd, 1) := by decide +kernel
theorem dX11_parseScript_73 : decode cX11_parseScript 73 = .ok (.invokevirtual 241, 3) := by decide +kernel
theorem dX11_parseScript_76 : decode cX11_parseScript 76 = .ok (.ifCond .eq 10, 3) := by decide +kernel
theorem dX11_parseScript_79 : decode cX11_parseScript 79 = .ok (.aload_n 0, 1) := by decide +kernel
theorem dX11_parseScript_80 : decode cX11_parseScript 80 = .ok (.invokevirtual 199, 3) := by decide +kernel
theorem dX11_parseScript_83 : decode cX11_parseScript 83 = .ok (.ifCond .ne 5, 3) := by decide +kernel
theorem dX11_parseScript_86 : decode cX11_parseScript 86 = .ok (.iconst (-1), 1) := by decide +kernel
theorem dX11_parseScript_87 : decode cX11_parseScript 87 = .ok (.ireturn, 1) := by decide +kernel
theorem dX11_parseScript_88 : decode cX11_parseScript 88 = .ok (.iinc 1 1, 3) := by decide +kernel
theorem dX11_parseScript_91 : decode cX11_parseScript 91 = .ok (.goto (-89), 3) := by decide +kernel
theorem dX11_parseScript_94 : decode cX11_parseScript 94 = .ok (.iload_n 1, 1) := by decide +kernel
theorem dX11_parseScript_95 : decode cX11_parseScript 95 = .ok (.ireturn, 1) := by decide +kernel
set_option maxRecDepth 20000 in
theorem ggX11_canDo_X11_isRange : GoodIn wsX11_canDo wsX11_isRange := goodIn_r _ [5, 6, 7, 8, 4, 9, 10, 11, 12, 13, 44, 45, 46, 47, 48, 49, 50, 51, 52, 53, 54, 55, 56, 57, 58, 59, 60, 61, 62, 63] (by decide +kernel) (by decide +kernel)
set_option maxRecDepth 20000 in
theorem gX11_canDo_X11_isRange : GoodIn wsX11_canDo (wsV RX11 244 RX11 yX11_isRange wsX11_isRange) := goodIn_app (goodIn_of _ (by decide +kernel)) ggX11_canDo_X11_isRange
set_option maxRecDepth 20000 in
theorem ggX11_canDo_X11_isCell : GoodIn wsX11_canDo wsX11_isCell := goodIn_r _ [9, 10, 11, 12, 4, 13, 44, 45, 46, 47, 48, 49, 50, 51, 52, 53, 54, 55, 56, 57, 58, 59, 60, 61, 62, 63] (by decide +kernel) (by decide +kernel)
set_option maxRecDepth 20000 in
theorem gX11_canDo_X11_isCell : GoodIn wsX11_canDo (wsV RX11 98 RX11 yX11_isCell wsX11_isCell) := goodIn_app (goodIn_of _ (by decide +kernel)) ggX11_canDo_X11_isCell
set_option maxRecDepth 20000 in
theorem ggX11_canDo_X11_findCycle : GoodIn wsX11_canDo wsX11_findCycle := goodIn_r _ [17, 18, 19, 20, 21, 22, 4, 23, 10, 24, 25, 26, 27, 28, 29, 30, 31, 32, 33, 34, 35, 36, 37, 38, 39, 40, 41, 42, 43, 44, 45, 46, 47, 48, 49, 50, 51, 52, 53, 54, 55, 56, 57, 58, 59, 60, 61, 62, 63] (by decide +kernel) (by decide +kernel)
set_option maxRecDepth 20000 in
theorem gX11_canDo_X11_findCycle : GoodIn wsX11_canDo (wsV RX11 156 RX11 yX11_findCycle wsX11_findCycle) := goodIn_app (goodIn_of _ (by decide +kernel)) ggX11_canDo_X11_findCycle
theorem dX11_canDo_0 : decode cX11_canDo 0 = .ok (.iload_n 1, 1) := by decide +kernel
theorem dX11_canDo_1 : decode cX11_canDo 1 = .ok (.tableswitch 102 0 7 #[47, 47, 55, 66, 55, 102, 102, 87], 47) := by decide +kernel
theorem dX11_canDo_48 : decode cX11_canDo 48 = .ok (.aload_n 0, 1) := by decide +kernel
theorem dX11_canDo_49 : decode cX11_canDo 49 = .ok (.iload_n 3, 1) := by decide +kernel
theorem dX11_canDo_50 : decode cX11_canDo 50 = .ok (.iload 4, 2) := by decide +kernel
theorem dX11_canDo_52 : decode cX11_canDo 52 = .ok (.invokevirtual 244, 3) := by decide +kernel
theorem dX11_canDo_55 : decode cX11_canDo 55 = .ok (.ireturn, 1) := by decide +kernel
theorem dX11_canDo_56 : decode cX11_canDo 56 = .ok (.iload_n 2, 1) := by decide +kernel
theorem dX11_canDo_57 : decode cX11_canDo 57 = .ok (.iload_n 3, 1) := by decide +kernel
theorem dX11_canDo_58 : decode cX11_canDo 58 = .ok (.if_icmp .eq 7, 3) := by decide +kernel
theorem dX11_canDo_61 : decode cX11_canDo 61 = .ok (.iconst 1, 1) := by decide +kernel
theorem dX11_canDo_62 : decode cX11_canDo 62 = .ok (.goto 4, 3) := by decide +kernel
theorem dX11_canDo_65 : decode cX11_canDo 65 = .ok (.iconst 0, 1) := by decide +kernel
theorem dX11_canDo_66 : decode cX11_canDo 66 = .ok (.ireturn, 1) := by decide +kernel
theorem dX11_canDo_67 : decode cX11_canDo 67 = .ok (.aload_n 0, 1) := by decide +kernel
theorem dX11_canDo_68 : decode cX11_canDo 68 = .ok (.iload_n 3, 1) := by decide +kernel
theorem dX11_canDo_69 : decode cX11_canDo 69 = .ok (.invokevirtual 98, 3) := by decide +kernel
theorem dX11_canDo_72 : decode cX11_canDo 72 = .ok (.ifCond .eq 14, 3) := by decide +kernel
theorem dX11_canDo_75 : decode cX11_canDo 75 = .ok (.iload 4, 2) := by decide +kernel
theorem dX11_canDo_77 : decode cX11_canDo 77 = .ok (.bipush 9, 2) := by decide +kernel
theorem dX11_canDo_79 : decode cX11_canDo 79 = .ok (.if_icmp .gt 7, 3) := by decide +kernel
theorem dX11_canDo_82 : decode cX11_canDo 82 = .ok (.iconst 1, 1) := by decide +kernel
theorem dX11_canDo_83 : decode cX11_canDo 83 = .ok (.goto 4, 3) := by decide +kernel
theorem dX11_canDo_86 : decode cX11_canDo 86 = .ok (.iconst 0, 1) := by decide +kernel
theorem dX11_canDo_87 : decode cX11_canDo 87 = .ok (.ireturn, 1) := by decide +kernel
theorem dX11_canDo_88 : decode cX11_canDo 88 = .ok (.aload_n 0, 1) := by decide +kernel
theorem dX11_canDo_89 : decode cX11_canDo 89 = .ok (.iload_n 2, 1) := by decide +kernel
theorem dX11_canDo_90 : decode cX11_canDo 90 = .ok (.invokevirtual 156, 3) := by decide +kernel
theorem dX11_canDo_93 : decode cX11_canDo 93 = .ok (.iconst (-1), 1) := by decide +kernel
theorem dX11_canDo_94 : decode cX11_canDo 94 = .ok (.if_icmp .eq 7, 3) := by decide +kernel
theorem dX11_canDo_97 : decode cX11_canDo 97 = .ok (.iconst 1, 1) := by decide +kernel
theorem dX11_canDo_98 : decode cX11_canDo 98 = .ok (.goto 4, 3) := by decide +kernel
theorem dX11_canDo_101 : decode cX11_canDo 101 = .ok (.iconst 0, 1) := by decide +kernel
theorem dX11_canDo_102 : decode cX11_canDo 102 = .ok (.ireturn, 1) := by decide +kernel
theorem dX11_canDo_103 : decode cX11_canDo 103 = .ok (.iconst 1, 1) := by decide +kernel
theorem dX11_canDo_104 : decode cX11_canDo 104 = .ok (.ireturn, 1) := by decide +kernel
set_option maxRecDepth 20000 in
theorem ggX11_doIt_X11_own : GoodIn wsX11_doIt wsX11_own := goodIn_r _ [6, 1, 90, 91, 92, 93, 94, 95, 96, 97, 98, 99, 100, 101, 102, 103, 104, 105, 106, 107, 108, 109] (by decide +kernel) (by decide +kernel)
set_option maxRecDepth 20000 in
theorem gX11_doIt_X11_own : GoodIn wsX11_doIt (wsV RX11 140 RX11 yX11_own wsX11_own) := goodIn_app (goodIn_of _ (by decide +kernel)) ggX11_doIt_X11_own
set_option maxRecDepth 20000 in
theorem ggX11_doIt_X11_exchange : GoodIn wsX11_doIt wsX11_exchange := goodIn_r _ [10, 1, 11, 12, 13, 5, 14, 90, 91, 92, 93, 94, 95, 96, 97, 98, 99, 100, 101, 102, 103, 104, 105, 106, 107, 108, 109] (by decide +kernel) (by decide +kernel)
set_option maxRecDepth 20000 in
theorem gX11_doIt_X11_exchange : GoodIn wsX11_doIt (wsV RX11 247 RX11 yX11_exchange wsX11_exchange) := goodIn_app (goodIn_of _ (by decide +kernel)) ggX11_doIt_X11_exchange
set_option maxRecDepth 20000 in
theorem ggX11_doIt_X11_divide : GoodIn wsX11_doIt wsX11_divide := goodIn_r _ [18, 1, 19, 20, 21, 5, 22, 23, 24, 25, 26, 27, 28, 29, 30, 31, 32, 33, 34, 2, 3, 4, 6, 90, 91, 92, 93, 94, 95, 96, 97, 98, 99, 100, 101, 102, 103, 104, 105, 106, 107, 108, 109] (by decide +kernel) (by decide +kernel)
set_option maxRecDepth 20000 in
theorem gX11_doIt_X11_divide : GoodIn wsX11_doIt (wsV RX11 250 RX11 yX11_divide wsX11_divide) := goodIn_app (goodIn_of _ (by decide +kernel)) ggX11_doIt_X11_divide
set_option maxRecDepth 20000 in
theorem ggX11_doIt_X11_knife : GoodIn wsX11_doIt wsX11_knife := goodIn_r _ [38, 39, 1, 40, 41, 42, 5, 43, 44, 45, 46, 47, 27, 28, 29, 30, 31, 32, 33, 34, 2, 3, 4, 6, 48, 49, 50, 51, 52, 53, 54, 55, 56, 57, 58, 59, 60, 61, 62, 63, 11, 12, 13, 14, 23, 24, 25, 26, 90, 91, 92, 93, 94, 95, 96, 97, 98, 99, 100, 101, 102, 103, 104, 105, 106, 107, 108, 109] (by decide +kernel) (by decide +kernel)
set_option maxRecDepth 20000 in
theorem gX11_doIt_X11_knife : GoodIn wsX11_doIt (wsV RX11 252 RX11 yX11_knife wsX11_knife) := goodIn_app (goodIn_of _ (by decide +kernel)) ggX11_doIt_X11_knife
set_option maxRecDepth 20000 in
theorem ggX11_doIt_X11_robin : GoodIn wsX11_doIt wsX11_robin := goodIn_r _ [67, 1, 68, 69, 70, 5, 71, 11, 12, 13, 14, 31, 32, 33, 34, 90, 91, 92, 93, 94, 95, 96, 97, 98, 99, 100, 101, 102, 103, 104, 105, 106, 107, 108, 109] (by decide +kernel) (by decide +kernel)
set_option maxRecDepth 20000 in
theorem gX11_doIt_X11_robin : GoodIn wsX11_doIt (wsV RX11 254 RX11 yX11_robin wsX11_robin) := goodIn_app (goodIn_of _ (by decide +kernel)) ggX11_doIt_X11_robin
set_option maxRecDepth 20000 in
theorem ggX11_doIt_X11_turnCycle : GoodIn wsX11_doIt wsX11_turnCycle := goodIn_r _ [75, 1, 76, 77, 78, 79, 5, 80, 81, 82, 83, 84, 85, 86, 87, 88, 89, 60, 61, 62, 63, 11, 12, 13, 14, 31, 32, 33, 34, 56, 57, 58, 59, 90, 91, 92, 93, 94, 95, 96, 97, 98, 99, 100, 101, 102, 103, 104, 105, 106, 107, 108, 109] (by decide +kernel) (by decide +kernel)
set_option maxRecDepth 20000 in
theorem gX11_doIt_X11_turnCycle : GoodIn wsX11_doIt (wsV RX11 256 RX11 yX11_turnCycle wsX11_turnCycle) := goodIn_app (goodIn_of _ (by decide +kernel)) ggX11_doIt_X11_turnCycle
theorem dX11_doIt_0 : decode cX11_doIt 0 = .ok (.iload_n 1, 1) := by decide +kernel
theorem dX11_doIt_1 : decode cX11_doIt 1 = .ok (.tableswitch 123 0 6 #[43, 54, 65, 74, 96, 106, 114], 43) := by decide +kernel
theorem dX11_doIt_44 : decode cX11_doIt 44 = .ok (.aload_n 0, 1) := by decide +kernel
theorem dX11_doIt_45 : decode cX11_doIt 45 = .ok (.iload_n 2, 1) := by decide +kernel
theorem dX11_doIt_46 : decode cX11_doIt 46 = .ok (.iload_n 3, 1) := by decide +kernel
theorem dX11_doIt_47 : decode cX11_doIt 47 = .ok (.iload 4, 2) := by decide +kernel
theorem dX11_doIt_49 : decode cX11_doIt 49 = .ok (.invokevirtual 140, 3) := by decide +kernel
theorem dX11_doIt_52 : decode cX11_doIt 52 = .ok (.goto 78, 3) := by decide +kernel
theorem dX11_doIt_55 : decode cX11_doIt 55 = .ok (.aload_n 0, 1) := by decide +kernel
theorem dX11_doIt_56 : decode cX11_doIt 56 = .ok (.iconst (-1), 1) := by decide +kernel
theorem dX11_doIt_57 : decode cX11_doIt 57 = .ok (.iload_n 3, 1) := by decide +kernel
theorem dX11_doIt_58 : decode cX11_doIt 58 = .ok (.iload 4, 2) := by decide +kernel
theorem dX11_doIt_60 : decode cX11_doIt 60 = .ok (.invokevirtual 140, 3) := by decide +kernel
theorem dX11_doIt_63 : decode cX11_doIt 63 = .ok (.goto 67, 3) := by decide +kernel
theorem dX11_doIt_66 : decode cX11_doIt 66 = .ok (.aload_n 0, 1) := by decide +kernel
theorem dX11_doIt_67 : decode cX11_doIt 67 = .ok (.iload_n 2, 1) := by decide +kernel
theorem dX11_doIt_68 : decode cX11_doIt 68 = .ok (.iload_n 3, 1) := by decide +kernel
theorem dX11_doIt_69 : decode cX11_doIt 69 = .ok (.invokevirtual 247, 3) := by decide +kernel
theorem dX11_doIt_72 : decode cX11_doIt 72 = .ok (.goto 58, 3) := by decide +kernel
theorem dX11_doIt_75 : decode cX11_doIt 75 = .ok (.aload_n 0, 1) := by decide +kernel
theorem dX11_doIt_76 : decode cX11_doIt 76 = .ok (.getfield 13, 3) := by decide +kernel
theorem dX11_doIt_79 : decode cX11_doIt 79 = .ok (.bipush 26, 2) := by decide +kernel
theorem dX11_doIt_81 : decode cX11_doIt 81 = .ok (.iload_n 2, 1) := by decide +kernel
theorem dX11_doIt_82 : decode cX11_doIt 82 = .ok (.bipush 31, 2) := by decide +kernel
theorem dX11_doIt_84 : decode cX11_doIt 84 = .ok (.imul, 1) := by decide +kernel
theorem dX11_doIt_85 : decode cX11_doIt 85 = .ok (.iadd, 1) := by decide +kernel
theorem dX11_doIt_86 : decode cX11_doIt 86 = .ok (.bipush 7, 2) := by decide +kernel
theorem dX11_doIt_88 : decode cX11_doIt 88 = .ok (.iadd, 1) := by decide +kernel
theorem dX11_doIt_89 : decode cX11_doIt 89 = .ok (.iload_n 3, 1) := by decide +kernel
theorem dX11_doIt_90 : decode cX11_doIt 90 = .ok (.iadd, 1) := by decide +kernel
theorem dX11_doIt_91 : decode cX11_doIt 91 = .ok (.iload 4, 2) := by decide +kernel
theorem dX11_doIt_93 : decode cX11_doIt 93 = .ok (.iastore, 1) := by decide +kernel
theorem dX11_doIt_94 : decode cX11_doIt 94 = .ok (.goto 36, 3) := by decide +kernel
theorem dX11_doIt_97 : decode cX11_doIt 97 = .ok (.aload_n 0, 1) := by decide +kernel
theorem dX11_doIt_98 : decode cX11_doIt 98 = .ok (.iload_n 2, 1) := by decide +kernel
theorem dX11_doIt_99 : decode cX11_doIt 99 = .ok (.iload_n 3, 1) := by decide +kernel
theorem dX11_doIt_100 : decode cX11_doIt 100 = .ok (.invokevirtual 250, 3) := by decide +kernel
theorem dX11_doIt_103 : decode cX11_doIt 103 = .ok (.pop, 1) := by decide +kernel
theorem dX11_doIt_104 : decode cX11_doIt 104 = .ok (.goto 26, 3) := by decide +kernel
theorem dX11_doIt_107 : decode cX11_doIt 107 = .ok (.aload_n 0, 1) := by decide +kernel
theorem dX11_doIt_108 : decode cX11_doIt 108 = .ok (.invokevirtual 252, 3) := by decide +kernel
theorem dX11_doIt_111 : decode cX11_doIt 111 = .ok (.pop, 1) := by decide +kernel
theorem dX11_doIt_112 : decode cX11_doIt 112 = .ok (.goto 18, 3) := by decide +kernel
theorem dX11_doIt_115 : decode cX11_doIt 115 = .ok (.aload_n 0, 1) := by decide +kernel
theorem dX11_doIt_116 : decode cX11_doIt 116 = .ok (.iload_n 2, 1) := by decide +kernel
theorem dX11_doIt_117 : decode cX11_doIt 117 = .ok (.invokevirtual 254, 3) := by decide +kernel
theorem dX11_doIt_120 : decode cX11_doIt 120 = .ok (.pop, 1) := by decide +kernel
theorem dX11_doIt_121 : decode cX11_doIt 121 = .ok (.goto 9, 3) := by decide +kernel
theorem dX11_doIt_124 : decode cX11_doIt 124 = .ok (.aload_n 0, 1) := by decide +kernel
theorem dX11_doIt_125 : decode cX11_doIt 125 = .ok (.iload_n 2, 1) := by decide +kernel
theorem dX11_doIt_126 : decode cX11_doIt 126 = .ok (.invokevirtual 256, 3) := by decide +kernel
theorem dX11_doIt_129 : decode cX11_doIt 129 = .ok (.pop, 1) := by decide +kernel
theorem dX11_doIt_130 : decode cX11_doIt 130 = .ok (.return_, 1) := by decide +kernel
set_option maxRecDepth 20000 in
theorem ggX11_runScript_X11_begin : GoodIn wsX11_runScript wsX11_begin := goodIn_r _ [7, 8, 9, 10, 11, 12, 13, 6, 14, 1, 15, 16, 17, 18, 19, 20, 21, 22, 23, 24, 238, 239, 240, 241, 242, 243, 244, 245, 246, 247, 248, 249, 250, 251, 252, 253, 254, 255, 256, 257] (by decide +kernel) (by decide +kernel)
set_option maxRecDepth 20000 in
theorem gX11_runScript_X11_begin : GoodIn wsX11_runScript (wsV RX11 83 RX11 yX11_begin wsX11_begin) := goodIn_app (goodIn_of _ (by decide +kernel)) ggX11_runScript_X11_begin
set_option maxRecDepth 20000 in
theorem ggX11_runScript_X11_parseScript : GoodIn wsX11_runScript wsX11_parseScript := goodIn_r _ [28, 17, 2, 29, 30, 31, 6, 32, 33, 34, 35, 36, 37, 38, 39, 10, 16, 15, 40, 41, 42, 43, 44, 45, 46, 47, 48, 49, 50, 51, 52, 53, 54, 55, 56, 57, 58, 59, 60, 61, 62, 63, 64, 65, 66, 67, 68, 69, 70, 71, 72, 73, 74, 75, 76, 77, 78, 79, 80, 81, 82, 83, 84, 85, 86, 87, 88, 89, 90, 91, 92, 8, 9, 11, 12, 13, 14, 1, 18, 19, 20, 21, 22, 23, 24, 93, 94, 95, 96, 97, 98, 99, 100, 101, 102, 103, 104, 105, 106, 107, 108, 109, 110, 111, 112, 113, 114, 115, 116, 117, 238, 239, 240, 241, 242, 243, 244, 245, 246, 247, 248, 249, 250, 251, 252, 253, 254, 255, 256, 257] (by decide +kernel) (by decide +kernel)
set_option maxRecDepth 20000 in
theorem gX11_runScript_X11_parseScript : GoodIn wsX11_runScript (wsV RX11 259 RX11 yX11_parseScript wsX11_parseScript) := goodIn_app (goodIn_of _ (by decide +kernel)) ggX11_runScript_X11_parseScript
set_option maxRecDepth 20000 in
theorem ggX11_runScript_X11_fails : GoodIn wsX11_runScript wsX11_fails := goodIn_r _ [121, 122, 238, 239, 240, 241, 242, 243, 244, 245, 246, 247, 248, 249, 250, 251, 252, 253, 254, 255, 256, 257] (by decide +kernel) (by decide +kernel)
set_option maxRecDepth 20000 in
theorem gX11_runScript_X11_fails : GoodIn wsX11_runScript (wsV RX11 171 RX11 yX11_fails wsX11_fails) := goodIn_app (goodIn_of _ (by decide +kernel)) ggX11_runScript_X11_fails
set_option maxRecDepth 20000 in
theorem ggX11_runScript_X11_remember : GoodIn wsX11_runScript wsX11_remember := goodIn_r _ [126, 127, 128, 129, 130, 6, 131, 109, 238, 239, 240, 241, 242, 243, 244, 245, 246, 247, 248, 249, 250, 251, 252, 253, 254, 255, 256, 257] (by decide +kernel) (by decide +kernel)
set_option maxRecDepth 20000 in
theorem gX11_runScript_X11_remember : GoodIn wsX11_runScript (wsV RX11 262 RX11 yX11_remember wsX11_remember) := goodIn_app (goodIn_of _ (by decide +kernel)) ggX11_runScript_X11_remember
set_option maxRecDepth 20000 in
theorem ggX11_runScript_X11_canDo : GoodIn wsX11_runScript wsX11_canDo := goodIn_r _ [135, 136, 137, 138, 6, 139, 140, 141, 142, 143, 109, 144, 145, 146, 147, 148, 149, 150, 151, 152, 153, 154, 155, 156, 157, 158, 159, 160, 161, 162, 163, 164, 165, 166, 167, 168, 169, 170, 171, 172, 173, 174, 175, 176, 238, 239, 240, 241, 242, 243, 244, 245, 246, 247, 248, 249, 250, 251, 252, 253, 254, 255, 256, 257] (by decide +kernel) (by decide +kernel)
set_option maxRecDepth 20000 in
theorem gX11_runScript_X11_canDo : GoodIn wsX11_runScript (wsV RX11 265 RX11 yX11_canDo wsX11_canDo) := goodIn_app (goodIn_of _ (by decide +kernel)) ggX11_runScript_X11_canDo
set_option maxRecDepth 20000 in
theorem ggX11_runScript_X11_doIt : GoodIn wsX11_runScript wsX11_doIt := goodIn_r _ [180, 109, 181, 182, 183, 6, 184, 185, 186, 187, 188, 165, 166, 167, 168, 189, 190, 191, 192, 193, 194, 195, 196, 197, 198, 199, 200, 201, 202, 203, 204, 169, 170, 171, 172, 205, 206, 207, 208, 209, 210, 211, 212, 213, 214, 215, 216, 217, 218, 219, 220, 221, 222, 223, 224, 225, 173, 174, 175, 176, 161, 162, 163, 164, 226, 227, 228, 229, 230, 231, 232, 233, 234, 235, 236, 237, 152, 147, 148, 149, 150, 151, 153, 154, 155, 156, 157, 158, 159, 160, 238, 239, 240, 241, 242, 243, 244, 245, 246, 247, 248, 249, 250, 251, 252, 253, 254, 255, 256, 257] (by decide +kernel) (by decide +kernel)
set_option maxRecDepth 20000 in
theorem gX11_runScript_X11_doIt : GoodIn wsX11_runScript (wsV RX11 269 RX11 yX11_doIt wsX11_doIt) := goodIn_app (goodIn_of _ (by decide +kernel)) ggX11_runScript_X11_doIt
theorem dX11_runScript_0 : decode cX11_runScript 0 = .ok (.aload_n 0, 1) := by decide +kernel
theorem dX11_runScript_1 : decode cX11_runScript 1 = .ok (.invokevirtual 83, 3) := by decide +kernel
theorem dX11_runScript_4 : decode cX11_runScript 4 = .ok (.aload_n 0, 1) := by decide +kernel
theorem dX11_runScript_5 : decode cX11_runScript 5 = .ok (.invokevirtual 259, 3) := by decide +kernel
theorem dX11_runScript_8 : decode cX11_runScript 8 = .ok (.istore_n 1, 1) := by decide +kernel
theorem dX11_runScript_9 : decode cX11_runScript 9 = .ok (.aload_n 0, 1) := by decide +kernel
theorem dX11_runScript_10 : decode cX11_runScript 10 = .ok (.iconst 0, 1) := by decide +kernel
theorem dX11_runScript_11 : decode cX11_runScript 11 = .ok (.putfield 27, 3) := by decide +kernel
theorem dX11_runScript_14 : decode cX11_runScript 14 = .ok (.aload_n 0, 1) := by decide +kernel
theorem dX11_runScript_15 : decode cX11_runScript 15 = .ok (.iload_n 1, 1) := by decide +kernel
theorem dX11_runScript_16 : decode cX11_runScript 16 = .ok (.iconst (-1), 1) := by decide +kernel
theorem dX11_runScript_17 : decode cX11_runScript 17 = .ok (.if_icmp .ne 7, 3) := by decide +kernel
theorem dX11_runScript_20 : decode cX11_runScript 20 = .ok (.iconst 1, 1) := by decide +kernel
theorem dX11_runScript_21 : decode cX11_runScript 21 = .ok (.goto 4, 3) := by decide +kernel
theorem dX11_runScript_24 : decode cX11_runScript 24 = .ok (.iconst 0, 1) := by decide +kernel
theorem dX11_runScript_25 : decode cX11_runScript 25 = .ok (.iconst 0, 1) := by decide +kernel
theorem dX11_runScript_26 : decode cX11_runScript 26 = .ok (.iconst 0, 1) := by decide +kernel
theorem dX11_runScript_27 : decode cX11_runScript 27 = .ok (.invokevirtual 171, 3) := by decide +kernel
theorem dX11_runScript_30 : decode cX11_runScript 30 = .ok (.ifCond .eq 5, 3) := by decide +kernel
theorem dX11_runScript_33 : decode cX11_runScript 33 = .ok (.iconst 0, 1) := by decide +kernel
theorem dX11_runScript_34 : decode cX11_runScript 34 = .ok (.ireturn, 1) := by decide +kernel
theorem dX11_runScript_35 : decode cX11_runScript 35 = .ok (.aload_n 0, 1) := by decide +kernel
theorem dX11_runScript_36 : decode cX11_runScript 36 = .ok (.iconst 0, 1) := by decide +kernel
theorem dX11_runScript_37 : decode cX11_runScript 37 = .ok (.invokevirtual 262, 3) := by decide +kernel
theorem dX11_runScript_40 : decode cX11_runScript 40 = .ok (.iconst 0, 1) := by decide +kernel
theorem dX11_runScript_41 : decode cX11_runScript 41 = .ok (.istore_n 2, 1) := by decide +kernel
theorem dX11_runScript_42 : decode cX11_runScript 42 = .ok (.iload_n 2, 1) := by decide +kernel
theorem dX11_runScript_43 : decode cX11_runScript 43 = .ok (.iload_n 1, 1) := by decide +kernel
theorem dX11_runScript_44 : decode cX11_runScript 44 = .ok (.if_icmp .ge 86, 3) := by decide +kernel
theorem dX11_runScript_47 : decode cX11_runScript 47 = .ok (.iload_n 2, 1) := by decide +kernel
theorem dX11_runScript_48 : decode cX11_runScript 48 = .ok (.iconst 4, 1) := by decide +kernel
theorem dX11_runScript_49 : decode cX11_runScript 49 = .ok (.imul, 1) := by decide +kernel
theorem dX11_runScript_50 : decode cX11_runScript 50 = .ok (.istore_n 3, 1) := by decide +kernel
theorem dX11_runScript_51 : decode cX11_runScript 51 = .ok (.aload_n 0, 1) := by decide +kernel
theorem dX11_runScript_52 : decode cX11_runScript 52 = .ok (.aload_n 0, 1) := by decide +kernel
theorem dX11_runScript_53 : decode cX11_runScript 53 = .ok (.getfield 69, 3) := by decide +kernel
theorem dX11_runScript_56 : decode cX11_runScript 56 = .ok (.iload_n 3, 1) := by decide +kernel
theorem dX11_runScript_57 : decode cX11_runScript 57 = .ok (.iaload, 1) := by decide +kernel
theorem dX11_runScript_58 : decode cX11_runScript 58 = .ok (.aload_n 0, 1) := by decide +kernel
theorem dX11_runScript_59 : decode cX11_runScript 59 = .ok (.getfield 69, 3) := by decide +kernel
theorem dX11_runScript_62 : decode cX11_runScript 62 = .ok (.iload_n 3, 1) := by decide +kernel
theorem dX11_runScript_63 : decode cX11_runScript 63 = .ok (.iconst 1, 1) := by decide +kernel
theorem dX11_runScript_64 : decode cX11_runScript 64 = .ok (.iadd, 1) := by decide +kernel
theorem dX11_runScript_65 : decode cX11_runScript 65 = .ok (.iaload, 1) := by decide +kernel
theorem dX11_runScript_66 : decode cX11_runScript 66 = .ok (.aload_n 0, 1) := by decide +kernel
theorem dX11_runScript_67 : decode cX11_runScript 67 = .ok (.getfield 69, 3) := by decide +kernel
theorem dX11_runScript_70 : decode cX11_runScript 70 = .ok (.iload_n 3, 1) := by decide +kernel
theorem dX11_runScript_71 : decode cX11_runScript 71 = .ok (.iconst 2, 1) := by decide +kernel
theorem dX11_runScript_72 : decode cX11_runScript 72 = .ok (.iadd, 1) := by decide +kernel
theorem dX11_runScript_73 : decode cX11_runScript 73 = .ok (.iaload, 1) := by decide +kernel
theorem dX11_runScript_74 : decode cX11_runScript 74 = .ok (.aload_n 0, 1) := by decide +kernel
theorem dX11_runScript_75 : decode cX11_runScript 75 = .ok (.getfield 69, 3) := by decide +kernel
theorem dX11_runScript_78 : decode cX11_runScript 78 = .ok (.iload_n 3, 1) := by decide +kernel
theorem dX11_runScript_79 : decode cX11_runScript 79 = .ok (.iconst 3, 1) := by decide +kernel
theorem dX11_runScript_80 : decode cX11_runScript 80 = .ok (.iadd, 1) := by decide +kernel
theorem dX11_runScript_81 : decode cX11_runScript 81 = .ok (.iaload, 1) := by decide +kernel
theorem dX11_runScript_82 : decode cX11_runScript 82 = .ok (.invokevirtual 265, 3) := by decide +kernel
theorem dX11_runScript_85 : decode cX11_runScript 85 = .ok (.ifCond .ne 5, 3) := by decide +kernel
theorem dX11_runScript_88 : decode cX11_runScript 88 = .ok (.iload_n 2, 1) := by decide +kernel
theorem dX11_runScript_89 : decode cX11_runScript 89 = .ok (.ireturn, 1) := by decide +kernel
theorem dX11_runScript_90 : decode cX11_runScript 90 = .ok (.aload_n 0, 1) := by decide +kernel
theorem dX11_runScript_91 : decode cX11_runScript 91 = .ok (.aload_n 0, 1) := by decide +kernel
theorem dX11_runScript_92 : decode cX11_runScript 92 = .ok (.getfield 69, 3) := by decide +kernel
theorem dX11_runScript_95 : decode cX11_runScript 95 = .ok (.iload_n 3, 1) := by decide +kernel
theorem dX11_runScript_96 : decode cX11_runScript 96 = .ok (.iaload, 1) := by decide +kernel
theorem dX11_runScript_97 : decode cX11_runScript 97 = .ok (.aload_n 0, 1) := by decide +kernel
theorem dX11_runScript_98 : decode cX11_runScript 98 = .ok (.getfield 69, 3) := by decide +kernel
theorem dX11_runScript_101 : decode cX11_runScript 101 = .ok (.iload_n 3, 1) := by decide +kernel
theorem dX11_runScript_102 : decode cX11_runScript 102 = .ok (.iconst 1, 1) := by decide +kernel
theorem dX11_runScript_103 : decode cX11_runScript 103 = .ok (.iadd, 1) := by decide +kernel
theorem dX11_runScript_104 : decode cX11_runScript 104 = .ok (.iaload, 1) := by decide +kernel
theorem dX11_runScript_105 : decode cX11_runScript 105 = .ok (.aload_n 0, 1) := by decide +kernel
theorem dX11_runScript_106 : decode cX11_runScript 106 = .ok (.getfield 69, 3) := by decide +kernel
theorem dX11_runScript_109 : decode cX11_runScript 109 = .ok (.iload_n 3, 1) := by decide +kernel
theorem dX11_runScript_110 : decode cX11_runScript 110 = .ok (.iconst 2, 1) := by decide +kernel
theorem dX11_runScript_111 : decode cX11_runScript 111 = .ok (.iadd, 1) := by decide +kernel
theorem dX11_runScript_112 : decode cX11_runScript 112 = .ok (.iaload, 1) := by decide +kernel
theorem dX11_runScript_113 : decode cX11_runScript 113 = .ok (.aload_n 0, 1) := by decide +kernel
theorem dX11_runScript_114 : decode cX11_runScript 114 = .ok (.getfield 69, 3) := by decide +kernel
theorem dX11_runScript_117 : decode cX11_runScript 117 = .ok (.iload_n 3, 1) := by decide +kernel
theorem dX11_runScript_118 : decode cX11_runScript 118 = .ok (.iconst 3, 1) := by decide +kernel
theorem dX11_runScript_119 : decode cX11_runScript 119 = .ok (.iadd, 1) := by decide +kernel
theorem dX11_runScript_120 : decode cX11_runScript 120 = .ok (.iaload, 1) := by decide +kernel
theorem dX11_runScript_121 : decode cX11_runScript 121 = .ok (.invokevirtual 269, 3) := by decide +kernel
theorem dX11_runScript_124 : decode cX11_runScript 124 = .ok (.iinc 2 1, 3) := by decide +kernel
theorem dX11_runScript_127 : decode cX11_runScript 127 = .ok (.goto (-85), 3) := by decide +kernel
theorem dX11_runScript_130 : decode cX11_runScript 130 = .ok (.iload_n 1, 1) := by decide +kernel
theorem dX11_runScript_131 : decode cX11_runScript 131 = .ok (.ireturn, 1) := by decide +kernel
theorem dX11_errorCode_0 : decode cX11_errorCode 0 = .ok (.aload_n 0, 1) := by decide +kernel
theorem dX11_errorCode_1 : decode cX11_errorCode 1 = .ok (.iconst 0, 1) := by decide +kernel
theorem dX11_errorCode_2 : decode cX11_errorCode 2 = .ok (.putfield 1, 3) := by decide +kernel
theorem dX11_errorCode_5 : decode cX11_errorCode 5 = .ok (.aload_n 0, 1) := by decide +kernel
theorem dX11_errorCode_6 : decode cX11_errorCode 6 = .ok (.getfield 30, 3) := by decide +kernel
theorem dX11_errorCode_9 : decode cX11_errorCode 9 = .ok (.ireturn, 1) := by decide +kernel
theorem dX11_errorPosition_0 : decode cX11_errorPosition 0 = .ok (.aload_n 0, 1) := by decide +kernel
theorem dX11_errorPosition_1 : decode cX11_errorPosition 1 = .ok (.iconst 0, 1) := by decide +kernel
theorem dX11_errorPosition_2 : decode cX11_errorPosition 2 = .ok (.putfield 1, 3) := by decide +kernel
theorem dX11_errorPosition_5 : decode cX11_errorPosition 5 = .ok (.aload_n 0, 1) := by decide +kernel
theorem dX11_errorPosition_6 : decode cX11_errorPosition 6 = .ok (.getfield 33, 3) := by decide +kernel
theorem dX11_errorPosition_9 : decode cX11_errorPosition 9 = .ok (.ireturn, 1) := by decide +kernel
theorem dX11_plain_0 : decode cX11_plain 0 = .ok (.aload_n 0, 1) := by decide +kernel
theorem dX11_plain_1 : decode cX11_plain 1 = .ok (.iconst 0, 1) := by decide +kernel
theorem dX11_plain_2 : decode cX11_plain 2 = .ok (.putfield 1, 3) := by decide +kernel
theorem dX11_plain_5 : decode cX11_plain 5 = .ok (.iload_n 1, 1) := by decide +kernel
theorem dX11_plain_6 : decode cX11_plain 6 = .ok (.ireturn, 1) := by decide +kernel
set_option maxRecDepth 20000 in
theorem ggX11_cellCount_X11_plain : GoodIn wsX11_cellCount wsX11_plain := goodIn_r _ [6, 7, 8, 9, 10, 11, 12, 13, 14, 15, 16, 17, 18, 19, 20, 21, 22, 23, 24, 25, 26, 27] (by decide +kernel) (by decide +kernel)
set_option maxRecDepth 20000 in
theorem gX11_cellCount_X11_plain : GoodIn wsX11_cellCount (wsV RX11 273 RX11 yX11_plain wsX11_plain) := goodIn_app (goodIn_of _ (by decide +kernel)) ggX11_cellCount_X11_plain
theorem dX11_cellCount_0 : decode cX11_cellCount 0 = .ok (.aload_n 0, 1) := by decide +kernel
theorem dX11_cellCount_1 : decode cX11_cellCount 1 = .ok (.aload_n 0, 1) := by decide +kernel
theorem dX11_cellCount_2 : decode cX11_cellCount 2 = .ok (.getfield 13, 3) := by decide +kernel
theorem dX11_cellCount_5 : decode cX11_cellCount 5 = .ok (.iconst 0, 1) := by decide +kernel
theorem dX11_cellCount_6 : decode cX11_cellCount 6 = .ok (.iaload, 1) := by decide +kernel
theorem dX11_cellCount_7 : decode cX11_cellCount 7 = .ok (.invokevirtual 273, 3) := by decide +kernel
theorem dX11_cellCount_10 : decode cX11_cellCount 10 = .ok (.ireturn, 1) := by decide +kernel
set_option maxRecDepth 20000 in
theorem ggX11_siblingCount_X11_plain : GoodIn wsX11_siblingCount wsX11_plain := goodIn_r _ [6, 7, 8, 9, 10, 11, 12, 13, 14, 15, 16, 17, 18, 19, 20, 21, 22, 23, 24, 25, 26, 27] (by decide +kernel) (by decide +kernel)
set_option maxRecDepth 20000 in
theorem gX11_siblingCount_X11_plain : GoodIn wsX11_siblingCount (wsV RX11 273 RX11 yX11_plain wsX11_plain) := goodIn_app (goodIn_of _ (by decide +kernel)) ggX11_siblingCount_X11_plain
theorem dX11_siblingCount_0 : decode cX11_siblingCount 0 = .ok (.aload_n 0, 1) := by decide +kernel
theorem dX11_siblingCount_1 : decode cX11_siblingCount 1 = .ok (.aload_n 0, 1) := by decide +kernel
theorem dX11_siblingCount_2 : decode cX11_siblingCount 2 = .ok (.getfield 13, 3) := by decide +kernel
theorem dX11_siblingCount_5 : decode cX11_siblingCount 5 = .ok (.iconst 1, 1) := by decide +kernel
theorem dX11_siblingCount_6 : decode cX11_siblingCount 6 = .ok (.iaload, 1) := by decide +kernel
theorem dX11_siblingCount_7 : decode cX11_siblingCount 7 = .ok (.invokevirtual 273, 3) := by decide +kernel
theorem dX11_siblingCount_10 : decode cX11_siblingCount 10 = .ok (.ireturn, 1) := by decide +kernel
set_option maxRecDepth 20000 in
theorem ggX11_nameByte_X11_isSibling : GoodIn wsX11_nameByte wsX11_isSibling := goodIn_r _ [6, 1, 7, 8, 5, 9, 15, 16, 17, 18, 19, 20, 21, 22, 23, 24, 25, 26, 27, 28, 29, 30, 31, 32, 33, 34] (by decide +kernel) (by decide +kernel)
set_option maxRecDepth 20000 in
theorem gX11_nameByte_X11_isSibling : GoodIn wsX11_nameByte (wsV RX11 94 RX11 yX11_isSibling wsX11_isSibling) := goodIn_app (goodIn_of _ (by decide +kernel)) ggX11_nameByte_X11_isSibling
set_option maxRecDepth 20000 in
theorem ggX11_nameByte_X11_in : GoodIn wsX11_nameByte wsX11_in := goodIn_r _ [9] (by decide +kernel) (by decide +kernel)
set_option maxRecDepth 20000 in
theorem gX11_nameByte_X11_in : GoodIn wsX11_nameByte (va_wsS RX11 90 yX11_in wsX11_in) := goodIn_app (goodIn_of _ (by decide +kernel)) ggX11_nameByte_X11_in
set_option maxRecDepth 20000 in
theorem ggX11_nameByte_X11_fails : GoodIn wsX11_nameByte wsX11_fails := goodIn_r _ [13, 14, 15, 16, 17, 18, 19, 20, 21, 22, 23, 24, 25, 26, 27, 28, 29, 30, 31, 32, 33, 34] (by decide +kernel) (by decide +kernel)
set_option maxRecDepth 20000 in
theorem gX11_nameByte_X11_fails : GoodIn wsX11_nameByte (wsV RX11 171 RX11 yX11_fails wsX11_fails) := goodIn_app (goodIn_of _ (by decide +kernel)) ggX11_nameByte_X11_fails
theorem dX11_nameByte_0 : decode cX11_nameByte 0 = .ok (.bipush 26, 2) := by decide +kernel
theorem dX11_nameByte_2 : decode cX11_nameByte 2 = .ok (.aload_n 0, 1) := by decide +kernel
theorem dX11_nameByte_3 : decode cX11_nameByte 3 = .ok (.iload_n 1, 1) := by decide +kernel
theorem dX11_nameByte_4 : decode cX11_nameByte 4 = .ok (.invokevirtual 94, 3) := by decide +kernel
theorem dX11_nameByte_7 : decode cX11_nameByte 7 = .ok (.ifCond .eq 7, 3) := by decide +kernel
theorem dX11_nameByte_10 : decode cX11_nameByte 10 = .ok (.iload_n 1, 1) := by decide +kernel
theorem dX11_nameByte_11 : decode cX11_nameByte 11 = .ok (.goto 4, 3) := by decide +kernel
theorem dX11_nameByte_14 : decode cX11_nameByte 14 = .ok (.iconst 0, 1) := by decide +kernel
theorem dX11_nameByte_15 : decode cX11_nameByte 15 = .ok (.bipush 31, 2) := by decide +kernel
theorem dX11_nameByte_17 : decode cX11_nameByte 17 = .ok (.imul, 1) := by decide +kernel
theorem dX11_nameByte_18 : decode cX11_nameByte 18 = .ok (.iadd, 1) := by decide +kernel
theorem dX11_nameByte_19 : decode cX11_nameByte 19 = .ok (.istore_n 3, 1) := by decide +kernel
theorem dX11_nameByte_20 : decode cX11_nameByte 20 = .ok (.aload_n 0, 1) := by decide +kernel
theorem dX11_nameByte_21 : decode cX11_nameByte 21 = .ok (.aload_n 0, 1) := by decide +kernel
theorem dX11_nameByte_22 : decode cX11_nameByte 22 = .ok (.iload_n 1, 1) := by decide +kernel
theorem dX11_nameByte_23 : decode cX11_nameByte 23 = .ok (.invokevirtual 94, 3) := by decide +kernel
theorem dX11_nameByte_26 : decode cX11_nameByte 26 = .ok (.ifCond .eq 19, 3) := by decide +kernel
theorem dX11_nameByte_29 : decode cX11_nameByte 29 = .ok (.iload_n 2, 1) := by decide +kernel
theorem dX11_nameByte_30 : decode cX11_nameByte 30 = .ok (.iconst 0, 1) := by decide +kernel
theorem dX11_nameByte_31 : decode cX11_nameByte 31 = .ok (.aload_n 0, 1) := by decide +kernel
theorem dX11_nameByte_32 : decode cX11_nameByte 32 = .ok (.getfield 13, 3) := by decide +kernel
theorem dX11_nameByte_35 : decode cX11_nameByte 35 = .ok (.iload_n 3, 1) := by decide +kernel
theorem dX11_nameByte_36 : decode cX11_nameByte 36 = .ok (.iaload, 1) := by decide +kernel
theorem dX11_nameByte_37 : decode cX11_nameByte 37 = .ok (.iconst 1, 1) := by decide +kernel
theorem dX11_nameByte_38 : decode cX11_nameByte 38 = .ok (.isub, 1) := by decide +kernel
theorem dX11_nameByte_39 : decode cX11_nameByte 39 = .ok (.invokestatic 90, 3) := by decide +kernel
theorem dX11_nameByte_42 : decode cX11_nameByte 42 = .ok (.ifCond .ne 7, 3) := by decide +kernel
theorem dX11_nameByte_45 : decode cX11_nameByte 45 = .ok (.iconst 1, 1) := by decide +kernel
theorem dX11_nameByte_46 : decode cX11_nameByte 46 = .ok (.goto 4, 3) := by decide +kernel
theorem dX11_nameByte_49 : decode cX11_nameByte 49 = .ok (.iconst 0, 1) := by decide +kernel
theorem dX11_nameByte_50 : decode cX11_nameByte 50 = .ok (.iconst 0, 1) := by decide +kernel
theorem dX11_nameByte_51 : decode cX11_nameByte 51 = .ok (.iconst 0, 1) := by decide +kernel
theorem dX11_nameByte_52 : decode cX11_nameByte 52 = .ok (.invokevirtual 171, 3) := by decide +kernel
theorem dX11_nameByte_55 : decode cX11_nameByte 55 = .ok (.ifCond .eq 5, 3) := by decide +kernel
theorem dX11_nameByte_58 : decode cX11_nameByte 58 = .ok (.iconst 0, 1) := by decide +kernel
theorem dX11_nameByte_59 : decode cX11_nameByte 59 = .ok (.ireturn, 1) := by decide +kernel
theorem dX11_nameByte_60 : decode cX11_nameByte 60 = .ok (.aload_n 0, 1) := by decide +kernel
theorem dX11_nameByte_61 : decode cX11_nameByte 61 = .ok (.getfield 13, 3) := by decide +kernel
theorem dX11_nameByte_64 : decode cX11_nameByte 64 = .ok (.iload_n 3, 1) := by decide +kernel
theorem dX11_nameByte_65 : decode cX11_nameByte 65 = .ok (.iconst 1, 1) := by decide +kernel
theorem dX11_nameByte_66 : decode cX11_nameByte 66 = .ok (.iadd, 1) := by decide +kernel
theorem dX11_nameByte_67 : decode cX11_nameByte 67 = .ok (.iload_n 2, 1) := by decide +kernel
theorem dX11_nameByte_68 : decode cX11_nameByte 68 = .ok (.iadd, 1) := by decide +kernel
theorem dX11_nameByte_69 : decode cX11_nameByte 69 = .ok (.iaload, 1) := by decide +kernel
theorem dX11_nameByte_70 : decode cX11_nameByte 70 = .ok (.ireturn, 1) := by decide +kernel
set_option maxRecDepth 20000 in
theorem ggX11_findSibling_X11_siblingNamed : GoodIn wsX11_findSibling wsX11_siblingNamed := goodIn_r _ [6, 7, 8, 14, 15, 16, 17, 18, 19, 20, 21, 22, 23, 24, 25, 26, 27, 28, 29, 30, 31, 32, 33] (by decide +kernel) (by decide +kernel)
set_option maxRecDepth 20000 in
theorem gX11_findSibling_X11_siblingNamed : GoodIn wsX11_findSibling (wsV RX11 193 RX11 yX11_siblingNamed wsX11_siblingNamed) := goodIn_app (goodIn_of _ (by decide +kernel)) ggX11_findSibling_X11_siblingNamed
set_option maxRecDepth 20000 in
theorem ggX11_findSibling_X11_fails : GoodIn wsX11_findSibling wsX11_fails := goodIn_r _ [12, 13, 14, 15, 16, 17, 18, 19, 20, 21, 22, 23, 24, 25, 26, 27, 28, 29, 30, 31, 32, 33] (by decide +kernel) (by decide +kernel)
set_option maxRecDepth 20000 in
theorem gX11_findSibling_X11_fails : GoodIn wsX11_findSibling (wsV RX11 171 RX11 yX11_fails wsX11_fails) := goodIn_app (goodIn_of _ (by decide +kernel)) ggX11_findSibling_X11_fails
theorem dX11_findSibling_0 : decode cX11_findSibling 0 = .ok (.aload_n 0, 1) := by decide +kernel
theorem dX11_findSibling_1 : decode cX11_findSibling 1 = .ok (.iconst 0, 1) := by decide +kernel
theorem dX11_findSibling_2 : decode cX11_findSibling 2 = .ok (.aload_n 0, 1) := by decide +kernel
theorem dX11_findSibling_3 : decode cX11_findSibling 3 = .ok (.getfield 27, 3) := by decide +kernel
theorem dX11_findSibling_6 : decode cX11_findSibling 6 = .ok (.invokevirtual 193, 3) := by decide +kernel
theorem dX11_findSibling_9 : decode cX11_findSibling 9 = .ok (.istore_n 1, 1) := by decide +kernel
theorem dX11_findSibling_10 : decode cX11_findSibling 10 = .ok (.aload_n 0, 1) := by decide +kernel
theorem dX11_findSibling_11 : decode cX11_findSibling 11 = .ok (.iload_n 1, 1) := by decide +kernel
theorem dX11_findSibling_12 : decode cX11_findSibling 12 = .ok (.iconst (-1), 1) := by decide +kernel
theorem dX11_findSibling_13 : decode cX11_findSibling 13 = .ok (.if_icmp .ne 7, 3) := by decide +kernel
theorem dX11_findSibling_16 : decode cX11_findSibling 16 = .ok (.iconst 1, 1) := by decide +kernel
theorem dX11_findSibling_17 : decode cX11_findSibling 17 = .ok (.goto 4, 3) := by decide +kernel
theorem dX11_findSibling_20 : decode cX11_findSibling 20 = .ok (.iconst 0, 1) := by decide +kernel
theorem dX11_findSibling_21 : decode cX11_findSibling 21 = .ok (.iconst 0, 1) := by decide +kernel
theorem dX11_findSibling_22 : decode cX11_findSibling 22 = .ok (.iconst 0, 1) := by decide +kernel
theorem dX11_findSibling_23 : decode cX11_findSibling 23 = .ok (.invokevirtual 171, 3) := by decide +kernel
theorem dX11_findSibling_26 : decode cX11_findSibling 26 = .ok (.ifCond .eq 5, 3) := by decide +kernel
theorem dX11_findSibling_29 : decode cX11_findSibling 29 = .ok (.iconst 0, 1) := by decide +kernel
theorem dX11_findSibling_30 : decode cX11_findSibling 30 = .ok (.ireturn, 1) := by decide +kernel
theorem dX11_findSibling_31 : decode cX11_findSibling 31 = .ok (.iload_n 1, 1) := by decide +kernel
theorem dX11_findSibling_32 : decode cX11_findSibling 32 = .ok (.ireturn, 1) := by decide +kernel
set_option maxRecDepth 20000 in
theorem ggX11_value_X11_isSibling : GoodIn wsX11_value wsX11_isSibling := goodIn_r _ [5, 6, 7, 8, 4, 9, 23, 24, 25, 26, 27, 28, 29, 30, 31, 32, 33, 34, 35, 36, 37, 38, 39, 40, 41, 42] (by decide +kernel) (by decide +kernel)
set_option maxRecDepth 20000 in
theorem gX11_value_X11_isSibling : GoodIn wsX11_value (wsV RX11 94 RX11 yX11_isSibling wsX11_isSibling) := goodIn_app (goodIn_of _ (by decide +kernel)) ggX11_value_X11_isSibling
set_option maxRecDepth 20000 in
theorem ggX11_value_X11_isCell : GoodIn wsX11_value wsX11_isCell := goodIn_r _ [13, 6, 7, 8, 4, 9, 23, 24, 25, 26, 27, 28, 29, 30, 31, 32, 33, 34, 35, 36, 37, 38, 39, 40, 41, 42] (by decide +kernel) (by decide +kernel)
set_option maxRecDepth 20000 in
theorem gX11_value_X11_isCell : GoodIn wsX11_value (wsV RX11 98 RX11 yX11_isCell wsX11_isCell) := goodIn_app (goodIn_of _ (by decide +kernel)) ggX11_value_X11_isCell
set_option maxRecDepth 20000 in
theorem ggX11_value_X11_fails : GoodIn wsX11_value wsX11_fails := goodIn_r _ [17, 18, 23, 24, 25, 26, 27, 28, 29, 30, 31, 32, 33, 34, 35, 36, 37, 38, 39, 40, 41, 42] (by decide +kernel) (by decide +kernel)
set_option maxRecDepth 20000 in
theorem gX11_value_X11_fails : GoodIn wsX11_value (wsV RX11 171 RX11 yX11_fails wsX11_fails) := goodIn_app (goodIn_of _ (by decide +kernel)) ggX11_value_X11_fails
set_option maxRecDepth 20000 in
theorem ggX11_value_X11_valueOf : GoodIn wsX11_value wsX11_valueOf := goodIn_r _ [22, 6, 23, 24, 25, 26, 27, 28, 29, 30, 31, 32, 33, 34, 35, 36, 37, 38, 39, 40, 41, 42] (by decide +kernel) (by decide +kernel)
set_option maxRecDepth 20000 in
theorem gX11_value_X11_valueOf : GoodIn wsX11_value (wsV RX11 105 RX11 yX11_valueOf wsX11_valueOf) := goodIn_app (goodIn_of _ (by decide +kernel)) ggX11_value_X11_valueOf
theorem dX11_value_0 : decode cX11_value 0 = .ok (.aload_n 0, 1) := by decide +kernel
theorem dX11_value_1 : decode cX11_value 1 = .ok (.aload_n 0, 1) := by decide +kernel
theorem dX11_value_2 : decode cX11_value 2 = .ok (.iload_n 1, 1) := by decide +kernel
theorem dX11_value_3 : decode cX11_value 3 = .ok (.invokevirtual 94, 3) := by decide +kernel
theorem dX11_value_6 : decode cX11_value 6 = .ok (.ifCond .eq 11, 3) := by decide +kernel
theorem dX11_value_9 : decode cX11_value 9 = .ok (.aload_n 0, 1) := by decide +kernel
theorem dX11_value_10 : decode cX11_value 10 = .ok (.iload_n 2, 1) := by decide +kernel
theorem dX11_value_11 : decode cX11_value 11 = .ok (.invokevirtual 98, 3) := by decide +kernel
theorem dX11_value_14 : decode cX11_value 14 = .ok (.ifCond .ne 7, 3) := by decide +kernel
theorem dX11_value_17 : decode cX11_value 17 = .ok (.iconst 1, 1) := by decide +kernel
theorem dX11_value_18 : decode cX11_value 18 = .ok (.goto 4, 3) := by decide +kernel
theorem dX11_value_21 : decode cX11_value 21 = .ok (.iconst 0, 1) := by decide +kernel
theorem dX11_value_22 : decode cX11_value 22 = .ok (.iconst 0, 1) := by decide +kernel
theorem dX11_value_23 : decode cX11_value 23 = .ok (.iconst 0, 1) := by decide +kernel
theorem dX11_value_24 : decode cX11_value 24 = .ok (.invokevirtual 171, 3) := by decide +kernel
theorem dX11_value_27 : decode cX11_value 27 = .ok (.ifCond .eq 5, 3) := by decide +kernel
theorem dX11_value_30 : decode cX11_value 30 = .ok (.iconst 0, 1) := by decide +kernel
theorem dX11_value_31 : decode cX11_value 31 = .ok (.ireturn, 1) := by decide +kernel
theorem dX11_value_32 : decode cX11_value 32 = .ok (.aload_n 0, 1) := by decide +kernel
theorem dX11_value_33 : decode cX11_value 33 = .ok (.iload_n 1, 1) := by decide +kernel
theorem dX11_value_34 : decode cX11_value 34 = .ok (.iload_n 2, 1) := by decide +kernel
theorem dX11_value_35 : decode cX11_value 35 = .ok (.invokevirtual 105, 3) := by decide +kernel
theorem dX11_value_38 : decode cX11_value 38 = .ok (.ireturn, 1) := by decide +kernel
set_option maxRecDepth 20000 in
theorem ggX11_owner_X11_isCell : GoodIn wsX11_owner wsX11_isCell := goodIn_r _ [5, 6, 7, 8, 4, 9, 19, 20, 21, 22, 23, 24, 25, 26, 27, 28, 29, 30, 31, 32, 33, 34, 35, 36, 37, 38] (by decide +kernel) (by decide +kernel)
set_option maxRecDepth 20000 in
theorem gX11_owner_X11_isCell : GoodIn wsX11_owner (wsV RX11 98 RX11 yX11_isCell wsX11_isCell) := goodIn_app (goodIn_of _ (by decide +kernel)) ggX11_owner_X11_isCell
set_option maxRecDepth 20000 in
theorem ggX11_owner_X11_fails : GoodIn wsX11_owner wsX11_fails := goodIn_r _ [13, 14, 19, 20, 21, 22, 23, 24, 25, 26, 27, 28, 29, 30, 31, 32, 33, 34, 35, 36, 37, 38] (by decide +kernel) (by decide +kernel)
set_option maxRecDepth 20000 in
theorem gX11_owner_X11_fails : GoodIn wsX11_owner (wsV RX11 171 RX11 yX11_fails wsX11_fails) := goodIn_app (goodIn_of _ (by decide +kernel)) ggX11_owner_X11_fails
set_option maxRecDepth 20000 in
theorem ggX11_owner_X11_ownerOf : GoodIn wsX11_owner wsX11_ownerOf := goodIn_r _ [18, 6, 19, 20, 21, 22, 23, 24, 25, 26, 27, 28, 29, 30, 31, 32, 33, 34, 35, 36, 37, 38] (by decide +kernel) (by decide +kernel)
set_option maxRecDepth 20000 in
theorem gX11_owner_X11_ownerOf : GoodIn wsX11_owner (wsV RX11 113 RX11 yX11_ownerOf wsX11_ownerOf) := goodIn_app (goodIn_of _ (by decide +kernel)) ggX11_owner_X11_ownerOf
theorem dX11_owner_0 : decode cX11_owner 0 = .ok (.aload_n 0, 1) := by decide +kernel
theorem dX11_owner_1 : decode cX11_owner 1 = .ok (.aload_n 0, 1) := by decide +kernel
theorem dX11_owner_2 : decode cX11_owner 2 = .ok (.iload_n 1, 1) := by decide +kernel
theorem dX11_owner_3 : decode cX11_owner 3 = .ok (.invokevirtual 98, 3) := by decide +kernel
theorem dX11_owner_6 : decode cX11_owner 6 = .ok (.ifCond .ne 7, 3) := by decide +kernel
theorem dX11_owner_9 : decode cX11_owner 9 = .ok (.iconst 1, 1) := by decide +kernel
theorem dX11_owner_10 : decode cX11_owner 10 = .ok (.goto 4, 3) := by decide +kernel
theorem dX11_owner_13 : decode cX11_owner 13 = .ok (.iconst 0, 1) := by decide +kernel
theorem dX11_owner_14 : decode cX11_owner 14 = .ok (.iconst 0, 1) := by decide +kernel
theorem dX11_owner_15 : decode cX11_owner 15 = .ok (.iconst 0, 1) := by decide +kernel
theorem dX11_owner_16 : decode cX11_owner 16 = .ok (.invokevirtual 171, 3) := by decide +kernel
theorem dX11_owner_19 : decode cX11_owner 19 = .ok (.ifCond .eq 5, 3) := by decide +kernel
theorem dX11_owner_22 : decode cX11_owner 22 = .ok (.iconst 0, 1) := by decide +kernel
theorem dX11_owner_23 : decode cX11_owner 23 = .ok (.ireturn, 1) := by decide +kernel
theorem dX11_owner_24 : decode cX11_owner 24 = .ok (.aload_n 0, 1) := by decide +kernel
theorem dX11_owner_25 : decode cX11_owner 25 = .ok (.iload_n 1, 1) := by decide +kernel
theorem dX11_owner_26 : decode cX11_owner 26 = .ok (.invokevirtual 113, 3) := by decide +kernel
theorem dX11_owner_29 : decode cX11_owner 29 = .ok (.ireturn, 1) := by decide +kernel
set_option maxRecDepth 20000 in
theorem ggX11_worth_X11_isSibling : GoodIn wsX11_worth wsX11_isSibling := goodIn_r _ [5, 6, 7, 8, 4, 9, 31, 32, 33, 34, 35, 36, 37, 38, 39, 40, 41, 42, 43, 44, 45, 46, 47, 48, 49, 50] (by decide +kernel) (by decide +kernel)
set_option maxRecDepth 20000 in
theorem gX11_worth_X11_isSibling : GoodIn wsX11_worth (wsV RX11 94 RX11 yX11_isSibling wsX11_isSibling) := goodIn_app (goodIn_of _ (by decide +kernel)) ggX11_worth_X11_isSibling
set_option maxRecDepth 20000 in
theorem ggX11_worth_X11_isRange : GoodIn wsX11_worth wsX11_isRange := goodIn_r _ [13, 14, 15, 16, 4, 17, 6, 7, 8, 9, 31, 32, 33, 34, 35, 36, 37, 38, 39, 40, 41, 42, 43, 44, 45, 46, 47, 48, 49, 50] (by decide +kernel) (by decide +kernel)
set_option maxRecDepth 20000 in
theorem gX11_worth_X11_isRange : GoodIn wsX11_worth (wsV RX11 244 RX11 yX11_isRange wsX11_isRange) := goodIn_app (goodIn_of _ (by decide +kernel)) ggX11_worth_X11_isRange
set_option maxRecDepth 20000 in
theorem ggX11_worth_X11_fails : GoodIn wsX11_worth wsX11_fails := goodIn_r _ [21, 22, 31, 32, 33, 34, 35, 36, 37, 38, 39, 40, 41, 42, 43, 44, 45, 46, 47, 48, 49, 50] (by decide +kernel) (by decide +kernel)
set_option maxRecDepth 20000 in
theorem gX11_worth_X11_fails : GoodIn wsX11_worth (wsV RX11 171 RX11 yX11_fails wsX11_fails) := goodIn_app (goodIn_of _ (by decide +kernel)) ggX11_worth_X11_fails
set_option maxRecDepth 20000 in
theorem ggX11_worth_X11_worthOf : GoodIn wsX11_worth wsX11_worthOf := goodIn_r _ [26, 27, 28, 29, 4, 30, 6, 31, 32, 33, 34, 35, 36, 37, 38, 39, 40, 41, 42, 43, 44, 45, 46, 47, 48, 49, 50] (by decide +kernel) (by decide +kernel)
set_option maxRecDepth 20000 in
theorem gX11_worth_X11_worthOf : GoodIn wsX11_worth (wsV RX11 109 RX11 yX11_worthOf wsX11_worthOf) := goodIn_app (goodIn_of _ (by decide +kernel)) ggX11_worth_X11_worthOf
theorem dX11_worth_0 : decode cX11_worth 0 = .ok (.aload_n 0, 1) := by decide +kernel
theorem dX11_worth_1 : decode cX11_worth 1 = .ok (.aload_n 0, 1) := by decide +kernel
theorem dX11_worth_2 : decode cX11_worth 2 = .ok (.iload_n 1, 1) := by decide +kernel
theorem dX11_worth_3 : decode cX11_worth 3 = .ok (.invokevirtual 94, 3) := by decide +kernel
theorem dX11_worth_6 : decode cX11_worth 6 = .ok (.ifCond .ne 7, 3) := by decide +kernel
theorem dX11_worth_9 : decode cX11_worth 9 = .ok (.iconst 1, 1) := by decide +kernel
theorem dX11_worth_10 : decode cX11_worth 10 = .ok (.goto 4, 3) := by decide +kernel
theorem dX11_worth_13 : decode cX11_worth 13 = .ok (.iconst 0, 1) := by decide +kernel
theorem dX11_worth_14 : decode cX11_worth 14 = .ok (.aload_n 0, 1) := by decide +kernel
theorem dX11_worth_15 : decode cX11_worth 15 = .ok (.iload_n 2, 1) := by decide +kernel
theorem dX11_worth_16 : decode cX11_worth 16 = .ok (.iload_n 3, 1) := by decide +kernel
theorem dX11_worth_17 : decode cX11_worth 17 = .ok (.invokevirtual 244, 3) := by decide +kernel
theorem dX11_worth_20 : decode cX11_worth 20 = .ok (.ifCond .ne 7, 3) := by decide +kernel
theorem dX11_worth_23 : decode cX11_worth 23 = .ok (.iconst 1, 1) := by decide +kernel
theorem dX11_worth_24 : decode cX11_worth 24 = .ok (.goto 4, 3) := by decide +kernel
theorem dX11_worth_27 : decode cX11_worth 27 = .ok (.iconst 0, 1) := by decide +kernel
theorem dX11_worth_28 : decode cX11_worth 28 = .ok (.iconst 0, 1) := by decide +kernel
theorem dX11_worth_29 : decode cX11_worth 29 = .ok (.invokevirtual 171, 3) := by decide +kernel
theorem dX11_worth_32 : decode cX11_worth 32 = .ok (.ifCond .eq 5, 3) := by decide +kernel
theorem dX11_worth_35 : decode cX11_worth 35 = .ok (.iconst 0, 1) := by decide +kernel
theorem dX11_worth_36 : decode cX11_worth 36 = .ok (.ireturn, 1) := by decide +kernel
theorem dX11_worth_37 : decode cX11_worth 37 = .ok (.aload_n 0, 1) := by decide +kernel
theorem dX11_worth_38 : decode cX11_worth 38 = .ok (.iload_n 1, 1) := by decide +kernel
theorem dX11_worth_39 : decode cX11_worth 39 = .ok (.iload_n 2, 1) := by decide +kernel
theorem dX11_worth_40 : decode cX11_worth 40 = .ok (.iload_n 3, 1) := by decide +kernel
theorem dX11_worth_41 : decode cX11_worth 41 = .ok (.invokevirtual 109, 3) := by decide +kernel
theorem dX11_worth_44 : decode cX11_worth 44 = .ok (.ireturn, 1) := by decide +kernel
set_option maxRecDepth 20000 in
theorem ggX11_total_X11_isSibling : GoodIn wsX11_total wsX11_isSibling := goodIn_r _ [5, 6, 7, 8, 4, 9, 27, 28, 29, 30, 31, 32, 33, 34, 35, 36, 37, 38, 39, 40, 41, 42, 43, 44, 45, 46] (by decide +kernel) (by decide +kernel)
set_option maxRecDepth 20000 in
theorem gX11_total_X11_isSibling : GoodIn wsX11_total (wsV RX11 94 RX11 yX11_isSibling wsX11_isSibling) := goodIn_app (goodIn_of _ (by decide +kernel)) ggX11_total_X11_isSibling
set_option maxRecDepth 20000 in
theorem ggX11_total_X11_fails : GoodIn wsX11_total wsX11_fails := goodIn_r _ [13, 14, 27, 28, 29, 30, 31, 32, 33, 34, 35, 36, 37, 38, 39, 40, 41, 42, 43, 44, 45, 46] (by decide +kernel) (by decide +kernel)
set_option maxRecDepth 20000 in
theorem gX11_total_X11_fails : GoodIn wsX11_total (wsV RX11 171 RX11 yX11_fails wsX11_fails) := goodIn_app (goodIn_of _ (by decide +kernel)) ggX11_total_X11_fails
set_option maxRecDepth 20000 in
theorem ggX11_total_X11_totalOf : GoodIn wsX11_total wsX11_totalOf := goodIn_r _ [18, 6, 19, 20, 21, 4, 22, 23, 24, 25, 26, 27, 28, 29, 30, 31, 32, 33, 34, 35, 36, 37, 38, 39, 40, 41, 42, 43, 44, 45, 46] (by decide +kernel) (by decide +kernel)
set_option maxRecDepth 20000 in
theorem gX11_total_X11_totalOf : GoodIn wsX11_total (wsV RX11 123 RX11 yX11_totalOf wsX11_totalOf) := goodIn_app (goodIn_of _ (by decide +kernel)) ggX11_total_X11_totalOf
theorem dX11_total_0 : decode cX11_total 0 = .ok (.aload_n 0, 1) := by decide +kernel
theorem dX11_total_1 : decode cX11_total 1 = .ok (.aload_n 0, 1) := by decide +kernel
theorem dX11_total_2 : decode cX11_total 2 = .ok (.iload_n 1, 1) := by decide +kernel
theorem dX11_total_3 : decode cX11_total 3 = .ok (.invokevirtual 94, 3) := by decide +kernel
theorem dX11_total_6 : decode cX11_total 6 = .ok (.ifCond .ne 7, 3) := by decide +kernel
theorem dX11_total_9 : decode cX11_total 9 = .ok (.iconst 1, 1) := by decide +kernel
theorem dX11_total_10 : decode cX11_total 10 = .ok (.goto 4, 3) := by decide +kernel
theorem dX11_total_13 : decode cX11_total 13 = .ok (.iconst 0, 1) := by decide +kernel
theorem dX11_total_14 : decode cX11_total 14 = .ok (.iconst 0, 1) := by decide +kernel
theorem dX11_total_15 : decode cX11_total 15 = .ok (.iconst 0, 1) := by decide +kernel
theorem dX11_total_16 : decode cX11_total 16 = .ok (.invokevirtual 171, 3) := by decide +kernel
theorem dX11_total_19 : decode cX11_total 19 = .ok (.ifCond .eq 5, 3) := by decide +kernel
theorem dX11_total_22 : decode cX11_total 22 = .ok (.iconst 0, 1) := by decide +kernel
theorem dX11_total_23 : decode cX11_total 23 = .ok (.ireturn, 1) := by decide +kernel
theorem dX11_total_24 : decode cX11_total 24 = .ok (.aload_n 0, 1) := by decide +kernel
theorem dX11_total_25 : decode cX11_total 25 = .ok (.iload_n 1, 1) := by decide +kernel
theorem dX11_total_26 : decode cX11_total 26 = .ok (.invokevirtual 123, 3) := by decide +kernel
theorem dX11_total_29 : decode cX11_total 29 = .ok (.ireturn, 1) := by decide +kernel
set_option maxRecDepth 20000 in
theorem ggX11_worthOfShare_X11_areSiblings : GoodIn wsX11_worthOfShare wsX11_areSiblings := goodIn_r _ [5, 6, 7, 8, 4, 9, 10, 11, 12, 13, 31, 32, 33, 34, 35, 36, 37, 38, 39, 40, 41, 42, 43, 44, 45, 46, 47, 48, 49, 50] (by decide +kernel) (by decide +kernel)
set_option maxRecDepth 20000 in
theorem gX11_worthOfShare_X11_areSiblings : GoodIn wsX11_worthOfShare (wsV RX11 276 RX11 yX11_areSiblings wsX11_areSiblings) := goodIn_app (goodIn_of _ (by decide +kernel)) ggX11_worthOfShare_X11_areSiblings
set_option maxRecDepth 20000 in
theorem ggX11_worthOfShare_X11_fails : GoodIn wsX11_worthOfShare wsX11_fails := goodIn_r _ [17, 18, 31, 32, 33, 34, 35, 36, 37, 38, 39, 40, 41, 42, 43, 44, 45, 46, 47, 48, 49, 50] (by decide +kernel) (by decide +kernel)
set_option maxRecDepth 20000 in
theorem gX11_worthOfShare_X11_fails : GoodIn wsX11_worthOfShare (wsV RX11 171 RX11 yX11_fails wsX11_fails) := goodIn_app (goodIn_of _ (by decide +kernel)) ggX11_worthOfShare_X11_fails
set_option maxRecDepth 20000 in
theorem ggX11_worthOfShare_X11_worthShare : GoodIn wsX11_worthOfShare wsX11_worthShare := goodIn_r _ [22, 10, 23, 24, 25, 4, 26, 27, 28, 29, 30, 31, 32, 33, 34, 35, 36, 37, 38, 39, 40, 41, 42, 43, 44, 45, 46, 47, 48, 49, 50] (by decide +kernel) (by decide +kernel)
set_option maxRecDepth 20000 in
theorem gX11_worthOfShare_X11_worthShare : GoodIn wsX11_worthOfShare (wsV RX11 117 RX11 yX11_worthShare wsX11_worthShare) := goodIn_app (goodIn_of _ (by decide +kernel)) ggX11_worthOfShare_X11_worthShare
theorem dX11_worthOfShare_0 : decode cX11_worthOfShare 0 = .ok (.aload_n 0, 1) := by decide +kernel
theorem dX11_worthOfShare_1 : decode cX11_worthOfShare 1 = .ok (.aload_n 0, 1) := by decide +kernel
theorem dX11_worthOfShare_2 : decode cX11_worthOfShare 2 = .ok (.iload_n 1, 1) := by decide +kernel
theorem dX11_worthOfShare_3 : decode cX11_worthOfShare 3 = .ok (.iload_n 2, 1) := by decide +kernel
theorem dX11_worthOfShare_4 : decode cX11_worthOfShare 4 = .ok (.invokevirtual 276, 3) := by decide +kernel
theorem dX11_worthOfShare_7 : decode cX11_worthOfShare 7 = .ok (.ifCond .ne 7, 3) := by decide +kernel
theorem dX11_worthOfShare_10 : decode cX11_worthOfShare 10 = .ok (.iconst 1, 1) := by decide +kernel
theorem dX11_worthOfShare_11 : decode cX11_worthOfShare 11 = .ok (.goto 4, 3) := by decide +kernel
theorem dX11_worthOfShare_14 : decode cX11_worthOfShare 14 = .ok (.iconst 0, 1) := by decide +kernel
theorem dX11_worthOfShare_15 : decode cX11_worthOfShare 15 = .ok (.iconst 0, 1) := by decide +kernel
theorem dX11_worthOfShare_16 : decode cX11_worthOfShare 16 = .ok (.iconst 0, 1) := by decide +kernel
theorem dX11_worthOfShare_17 : decode cX11_worthOfShare 17 = .ok (.invokevirtual 171, 3) := by decide +kernel
theorem dX11_worthOfShare_20 : decode cX11_worthOfShare 20 = .ok (.ifCond .eq 5, 3) := by decide +kernel
theorem dX11_worthOfShare_23 : decode cX11_worthOfShare 23 = .ok (.iconst 0, 1) := by decide +kernel
theorem dX11_worthOfShare_24 : decode cX11_worthOfShare 24 = .ok (.ireturn, 1) := by decide +kernel
theorem dX11_worthOfShare_25 : decode cX11_worthOfShare 25 = .ok (.aload_n 0, 1) := by decide +kernel
theorem dX11_worthOfShare_26 : decode cX11_worthOfShare 26 = .ok (.iload_n 1, 1) := by decide +kernel
theorem dX11_worthOfShare_27 : decode cX11_worthOfShare 27 = .ok (.iload_n 2, 1) := by decide +kernel
theorem dX11_worthOfShare_28 : decode cX11_worthOfShare 28 = .ok (.invokevirtual 117, 3) := by decide +kernel
theorem dX11_worthOfShare_31 : decode cX11_worthOfShare 31 = .ok (.ireturn, 1) := by decide +kernel
set_option maxRecDepth 20000 in
theorem ggX11_shareSize_X11_isSibling : GoodIn wsX11_shareSize wsX11_isSibling := goodIn_r _ [5, 6, 7, 8, 4, 9, 23, 24, 25, 26, 27, 28, 29, 30, 31, 32, 33, 34, 35, 36, 37, 38, 39, 40, 41, 42] (by decide +kernel) (by decide +kernel)
set_option maxRecDepth 20000 in
theorem gX11_shareSize_X11_isSibling : GoodIn wsX11_shareSize (wsV RX11 94 RX11 yX11_isSibling wsX11_isSibling) := goodIn_app (goodIn_of _ (by decide +kernel)) ggX11_shareSize_X11_isSibling
set_option maxRecDepth 20000 in
theorem ggX11_shareSize_X11_fails : GoodIn wsX11_shareSize wsX11_fails := goodIn_r _ [13, 14, 23, 24, 25, 26, 27, 28, 29, 30, 31, 32, 33, 34, 35, 36, 37, 38, 39, 40, 41, 42] (by decide +kernel) (by decide +kernel)
set_option maxRecDepth 20000 in
theorem gX11_shareSize_X11_fails : GoodIn wsX11_shareSize (wsV RX11 171 RX11 yX11_fails wsX11_fails) := goodIn_app (goodIn_of _ (by decide +kernel)) ggX11_shareSize_X11_fails
set_option maxRecDepth 20000 in
theorem ggX11_shareSize_X11_sizeOf : GoodIn wsX11_shareSize wsX11_sizeOf := goodIn_r _ [18, 6, 19, 20, 21, 4, 22, 23, 24, 25, 26, 27, 28, 29, 30, 31, 32, 33, 34, 35, 36, 37, 38, 39, 40, 41, 42] (by decide +kernel) (by decide +kernel)
set_option maxRecDepth 20000 in
theorem gX11_shareSize_X11_sizeOf : GoodIn wsX11_shareSize (wsV RX11 279 RX11 yX11_sizeOf wsX11_sizeOf) := goodIn_app (goodIn_of _ (by decide +kernel)) ggX11_shareSize_X11_sizeOf
theorem dX11_shareSize_0 : decode cX11_shareSize 0 = .ok (.aload_n 0, 1) := by decide +kernel
theorem dX11_shareSize_1 : decode cX11_shareSize 1 = .ok (.aload_n 0, 1) := by decide +kernel
theorem dX11_shareSize_2 : decode cX11_shareSize 2 = .ok (.iload_n 1, 1) := by decide +kernel
theorem dX11_shareSize_3 : decode cX11_shareSize 3 = .ok (.invokevirtual 94, 3) := by decide +kernel
theorem dX11_shareSize_6 : decode cX11_shareSize 6 = .ok (.ifCond .ne 7, 3) := by decide +kernel
theorem dX11_shareSize_9 : decode cX11_shareSize 9 = .ok (.iconst 1, 1) := by decide +kernel
theorem dX11_shareSize_10 : decode cX11_shareSize 10 = .ok (.goto 4, 3) := by decide +kernel
theorem dX11_shareSize_13 : decode cX11_shareSize 13 = .ok (.iconst 0, 1) := by decide +kernel
theorem dX11_shareSize_14 : decode cX11_shareSize 14 = .ok (.iconst 0, 1) := by decide +kernel
theorem dX11_shareSize_15 : decode cX11_shareSize 15 = .ok (.iconst 0, 1) := by decide +kernel
theorem dX11_shareSize_16 : decode cX11_shareSize 16 = .ok (.invokevirtual 171, 3) := by decide +kernel
theorem dX11_shareSize_19 : decode cX11_shareSize 19 = .ok (.ifCond .eq 5, 3) := by decide +kernel
theorem dX11_shareSize_22 : decode cX11_shareSize 22 = .ok (.iconst 0, 1) := by decide +kernel
theorem dX11_shareSize_23 : decode cX11_shareSize 23 = .ok (.ireturn, 1) := by decide +kernel
theorem dX11_shareSize_24 : decode cX11_shareSize 24 = .ok (.aload_n 0, 1) := by decide +kernel
theorem dX11_shareSize_25 : decode cX11_shareSize 25 = .ok (.iload_n 1, 1) := by decide +kernel
theorem dX11_shareSize_26 : decode cX11_shareSize 26 = .ok (.invokevirtual 279, 3) := by decide +kernel
theorem dX11_shareSize_29 : decode cX11_shareSize 29 = .ok (.ireturn, 1) := by decide +kernel
set_option maxRecDepth 20000 in
theorem ggX11_pieceCount_X11_isSibling : GoodIn wsX11_pieceCount wsX11_isSibling := goodIn_r _ [5, 6, 7, 8, 4, 9, 23, 24, 25, 26, 27, 28, 29, 30, 31, 32, 33, 34, 35, 36, 37, 38, 39, 40, 41, 42] (by decide +kernel) (by decide +kernel)
set_option maxRecDepth 20000 in
theorem gX11_pieceCount_X11_isSibling : GoodIn wsX11_pieceCount (wsV RX11 94 RX11 yX11_isSibling wsX11_isSibling) := goodIn_app (goodIn_of _ (by decide +kernel)) ggX11_pieceCount_X11_isSibling
set_option maxRecDepth 20000 in
theorem ggX11_pieceCount_X11_fails : GoodIn wsX11_pieceCount wsX11_fails := goodIn_r _ [13, 14, 23, 24, 25, 26, 27, 28, 29, 30, 31, 32, 33, 34, 35, 36, 37, 38, 39, 40, 41, 42] (by decide +kernel) (by decide +kernel)
set_option maxRecDepth 20000 in
theorem gX11_pieceCount_X11_fails : GoodIn wsX11_pieceCount (wsV RX11 171 RX11 yX11_fails wsX11_fails) := goodIn_app (goodIn_of _ (by decide +kernel)) ggX11_pieceCount_X11_fails
set_option maxRecDepth 20000 in
theorem ggX11_pieceCount_X11_pieces : GoodIn wsX11_pieceCount wsX11_pieces := goodIn_r _ [18, 6, 19, 20, 21, 4, 22, 23, 24, 25, 26, 27, 28, 29, 30, 31, 32, 33, 34, 35, 36, 37, 38, 39, 40, 41, 42] (by decide +kernel) (by decide +kernel)
set_option maxRecDepth 20000 in
theorem gX11_pieceCount_X11_pieces : GoodIn wsX11_pieceCount (wsV RX11 282 RX11 yX11_pieces wsX11_pieces) := goodIn_app (goodIn_of _ (by decide +kernel)) ggX11_pieceCount_X11_pieces
theorem dX11_pieceCount_0 : decode cX11_pieceCount 0 = .ok (.aload_n 0, 1) := by decide +kernel
theorem dX11_pieceCount_1 : decode cX11_pieceCount 1 = .ok (.aload_n 0, 1) := by decide +kernel
theorem dX11_pieceCount_2 : decode cX11_pieceCount 2 = .ok (.iload_n 1, 1) := by decide +kernel
theorem dX11_pieceCount_3 : decode cX11_pieceCount 3 = .ok (.invokevirtual 94, 3) := by decide +kernel
theorem dX11_pieceCount_6 : decode cX11_pieceCount 6 = .ok (.ifCond .ne 7, 3) := by decide +kernel
theorem dX11_pieceCount_9 : decode cX11_pieceCount 9 = .ok (.iconst 1, 1) := by decide +kernel
theorem dX11_pieceCount_10 : decode cX11_pieceCount 10 = .ok (.goto 4, 3) := by decide +kernel
theorem dX11_pieceCount_13 : decode cX11_pieceCount 13 = .ok (.iconst 0, 1) := by decide +kernel
theorem dX11_pieceCount_14 : decode cX11_pieceCount 14 = .ok (.iconst 0, 1) := by decide +kernel
theorem dX11_pieceCount_15 : decode cX11_pieceCount 15 = .ok (.iconst 0, 1) := by decide +kernel
theorem dX11_pieceCount_16 : decode cX11_pieceCount 16 = .ok (.invokevirtual 171, 3) := by decide +kernel
theorem dX11_pieceCount_19 : decode cX11_pieceCount 19 = .ok (.ifCond .eq 5, 3) := by decide +kernel
theorem dX11_pieceCount_22 : decode cX11_pieceCount 22 = .ok (.iconst 0, 1) := by decide +kernel
theorem dX11_pieceCount_23 : decode cX11_pieceCount 23 = .ok (.ireturn, 1) := by decide +kernel
theorem dX11_pieceCount_24 : decode cX11_pieceCount 24 = .ok (.aload_n 0, 1) := by decide +kernel
theorem dX11_pieceCount_25 : decode cX11_pieceCount 25 = .ok (.iload_n 1, 1) := by decide +kernel
theorem dX11_pieceCount_26 : decode cX11_pieceCount 26 = .ok (.invokevirtual 282, 3) := by decide +kernel
theorem dX11_pieceCount_29 : decode cX11_pieceCount 29 = .ok (.ireturn, 1) := by decide +kernel
set_option maxRecDepth 20000 in
theorem ggX11_freeCount_X11_sizeOf : GoodIn wsX11_freeCount wsX11_sizeOf := goodIn_r _ [5, 6, 7, 8, 9, 4, 10, 16, 17, 18, 19, 20, 21, 22, 23, 24, 25, 26, 27, 28, 29, 30, 31, 32, 33, 34, 35] (by decide +kernel) (by decide +kernel)
set_option maxRecDepth 20000 in
theorem gX11_freeCount_X11_sizeOf : GoodIn wsX11_freeCount (wsV RX11 279 RX11 yX11_sizeOf wsX11_sizeOf) := goodIn_app (goodIn_of _ (by decide +kernel)) ggX11_freeCount_X11_sizeOf
set_option maxRecDepth 20000 in
theorem ggX11_freeCount_X11_plain : GoodIn wsX11_freeCount wsX11_plain := goodIn_r _ [14, 15, 16, 17, 18, 19, 20, 21, 22, 23, 24, 25, 26, 27, 28, 29, 30, 31, 32, 33, 34, 35] (by decide +kernel) (by decide +kernel)
set_option maxRecDepth 20000 in
theorem gX11_freeCount_X11_plain : GoodIn wsX11_freeCount (wsV RX11 273 RX11 yX11_plain wsX11_plain) := goodIn_app (goodIn_of _ (by decide +kernel)) ggX11_freeCount_X11_plain
theorem dX11_freeCount_0 : decode cX11_freeCount 0 = .ok (.aload_n 0, 1) := by decide +kernel
theorem dX11_freeCount_1 : decode cX11_freeCount 1 = .ok (.aload_n 0, 1) := by decide +kernel
theorem dX11_freeCount_2 : decode cX11_freeCount 2 = .ok (.iconst (-1), 1) := by decide +kernel
theorem dX11_freeCount_3 : decode cX11_freeCount 3 = .ok (.invokevirtual 279, 3) := by decide +kernel
theorem dX11_freeCount_6 : decode cX11_freeCount 6 = .ok (.invokevirtual 273, 3) := by decide +kernel
theorem dX11_freeCount_9 : decode cX11_freeCount 9 = .ok (.ireturn, 1) := by decide +kernel
set_option maxRecDepth 20000 in
theorem ggX11_mark_X11_isSibling : GoodIn wsX11_mark wsX11_isSibling := goodIn_r _ [5, 6, 7, 8, 4, 9, 31, 32, 33, 34, 35, 36, 37, 38, 39, 40, 41, 42, 43, 44, 45, 46, 47, 48, 49, 50] (by decide +kernel) (by decide +kernel)
set_option maxRecDepth 20000 in
theorem gX11_mark_X11_isSibling : GoodIn wsX11_mark (wsV RX11 94 RX11 yX11_isSibling wsX11_isSibling) := goodIn_app (goodIn_of _ (by decide +kernel)) ggX11_mark_X11_isSibling
set_option maxRecDepth 20000 in
theorem ggX11_mark_X11_isCell : GoodIn wsX11_mark wsX11_isCell := goodIn_r _ [13, 6, 7, 8, 4, 9, 31, 32, 33, 34, 35, 36, 37, 38, 39, 40, 41, 42, 43, 44, 45, 46, 47, 48, 49, 50] (by decide +kernel) (by decide +kernel)
set_option maxRecDepth 20000 in
theorem gX11_mark_X11_isCell : GoodIn wsX11_mark (wsV RX11 98 RX11 yX11_isCell wsX11_isCell) := goodIn_app (goodIn_of _ (by decide +kernel)) ggX11_mark_X11_isCell
set_option maxRecDepth 20000 in
theorem ggX11_mark_X11_in : GoodIn wsX11_mark wsX11_in := goodIn_r _ [9] (by decide +kernel) (by decide +kernel)
set_option maxRecDepth 20000 in
theorem gX11_mark_X11_in : GoodIn wsX11_mark (va_wsS RX11 90 yX11_in wsX11_in) := goodIn_app (goodIn_of _ (by decide +kernel)) ggX11_mark_X11_in
set_option maxRecDepth 20000 in
theorem ggX11_mark_X11_fails : GoodIn wsX11_mark wsX11_fails := goodIn_r _ [17, 18, 31, 32, 33, 34, 35, 36, 37, 38, 39, 40, 41, 42, 43, 44, 45, 46, 47, 48, 49, 50] (by decide +kernel) (by decide +kernel)
set_option maxRecDepth 20000 in
theorem gX11_mark_X11_fails : GoodIn wsX11_mark (wsV RX11 171 RX11 yX11_fails wsX11_fails) := goodIn_app (goodIn_of _ (by decide +kernel)) ggX11_mark_X11_fails
set_option maxRecDepth 20000 in
theorem ggX11_mark_X11_markOf : GoodIn wsX11_mark wsX11_markOf := goodIn_r _ [22, 6, 23, 24, 25, 4, 26, 27, 28, 29, 30, 31, 32, 33, 34, 35, 36, 37, 38, 39, 40, 41, 42, 43, 44, 45, 46, 47, 48, 49, 50] (by decide +kernel) (by decide +kernel)
set_option maxRecDepth 20000 in
theorem gX11_mark_X11_markOf : GoodIn wsX11_mark (wsV RX11 147 RX11 yX11_markOf wsX11_markOf) := goodIn_app (goodIn_of _ (by decide +kernel)) ggX11_mark_X11_markOf
theorem dX11_mark_0 : decode cX11_mark 0 = .ok (.aload_n 0, 1) := by decide +kernel
theorem dX11_mark_1 : decode cX11_mark 1 = .ok (.aload_n 0, 1) := by decide +kernel
theorem dX11_mark_2 : decode cX11_mark 2 = .ok (.iload_n 1, 1) := by decide +kernel
theorem dX11_mark_3 : decode cX11_mark 3 = .ok (.invokevirtual 94, 3) := by decide +kernel
theorem dX11_mark_6 : decode cX11_mark 6 = .ok (.ifCond .eq 11, 3) := by decide +kernel
theorem dX11_mark_9 : decode cX11_mark 9 = .ok (.aload_n 0, 1) := by decide +kernel
theorem dX11_mark_10 : decode cX11_mark 10 = .ok (.iload_n 2, 1) := by decide +kernel
theorem dX11_mark_11 : decode cX11_mark 11 = .ok (.invokevirtual 98, 3) := by decide +kernel
theorem dX11_mark_14 : decode cX11_mark 14 = .ok (.ifCond .ne 7, 3) := by decide +kernel
theorem dX11_mark_17 : decode cX11_mark 17 = .ok (.iconst 1, 1) := by decide +kernel
theorem dX11_mark_18 : decode cX11_mark 18 = .ok (.goto 4, 3) := by decide +kernel
theorem dX11_mark_21 : decode cX11_mark 21 = .ok (.iconst 0, 1) := by decide +kernel
theorem dX11_mark_22 : decode cX11_mark 22 = .ok (.iload_n 3, 1) := by decide +kernel
theorem dX11_mark_23 : decode cX11_mark 23 = .ok (.iconst 1, 1) := by decide +kernel
theorem dX11_mark_24 : decode cX11_mark 24 = .ok (.bipush 24, 2) := by decide +kernel
theorem dX11_mark_26 : decode cX11_mark 26 = .ok (.invokestatic 90, 3) := by decide +kernel
theorem dX11_mark_29 : decode cX11_mark 29 = .ok (.ifCond .ne 7, 3) := by decide +kernel
theorem dX11_mark_32 : decode cX11_mark 32 = .ok (.iconst 1, 1) := by decide +kernel
theorem dX11_mark_33 : decode cX11_mark 33 = .ok (.goto 4, 3) := by decide +kernel
theorem dX11_mark_36 : decode cX11_mark 36 = .ok (.iconst 0, 1) := by decide +kernel
theorem dX11_mark_37 : decode cX11_mark 37 = .ok (.iconst 0, 1) := by decide +kernel
theorem dX11_mark_38 : decode cX11_mark 38 = .ok (.invokevirtual 171, 3) := by decide +kernel
theorem dX11_mark_41 : decode cX11_mark 41 = .ok (.ifCond .eq 5, 3) := by decide +kernel
theorem dX11_mark_44 : decode cX11_mark 44 = .ok (.iconst 0, 1) := by decide +kernel
theorem dX11_mark_45 : decode cX11_mark 45 = .ok (.ireturn, 1) := by decide +kernel
theorem dX11_mark_46 : decode cX11_mark 46 = .ok (.aload_n 0, 1) := by decide +kernel
theorem dX11_mark_47 : decode cX11_mark 47 = .ok (.iload_n 1, 1) := by decide +kernel
theorem dX11_mark_48 : decode cX11_mark 48 = .ok (.iload_n 2, 1) := by decide +kernel
theorem dX11_mark_49 : decode cX11_mark 49 = .ok (.iload_n 3, 1) := by decide +kernel
theorem dX11_mark_50 : decode cX11_mark 50 = .ok (.invokevirtual 147, 3) := by decide +kernel
theorem dX11_mark_53 : decode cX11_mark 53 = .ok (.ireturn, 1) := by decide +kernel
set_option maxRecDepth 20000 in
theorem ggX11_favouriteFreeCell_X11_isSibling : GoodIn wsX11_favouriteFreeCell wsX11_isSibling := goodIn_r _ [5, 6, 7, 8, 4, 9, 27, 28, 29, 30, 31, 32, 33, 34, 35, 36, 37, 38, 39, 40, 41, 42, 43, 44, 45, 46] (by decide +kernel) (by decide +kernel)
set_option maxRecDepth 20000 in
theorem gX11_favouriteFreeCell_X11_isSibling : GoodIn wsX11_favouriteFreeCell (wsV RX11 94 RX11 yX11_isSibling wsX11_isSibling) := goodIn_app (goodIn_of _ (by decide +kernel)) ggX11_favouriteFreeCell_X11_isSibling
set_option maxRecDepth 20000 in
theorem ggX11_favouriteFreeCell_X11_fails : GoodIn wsX11_favouriteFreeCell wsX11_fails := goodIn_r _ [13, 14, 27, 28, 29, 30, 31, 32, 33, 34, 35, 36, 37, 38, 39, 40, 41, 42, 43, 44, 45, 46] (by decide +kernel) (by decide +kernel)
set_option maxRecDepth 20000 in
theorem gX11_favouriteFreeCell_X11_fails : GoodIn wsX11_favouriteFreeCell (wsV RX11 171 RX11 yX11_fails wsX11_fails) := goodIn_app (goodIn_of _ (by decide +kernel)) ggX11_favouriteFreeCell_X11_fails
set_option maxRecDepth 20000 in
theorem ggX11_favouriteFreeCell_X11_favourite : GoodIn wsX11_favouriteFreeCell wsX11_favourite := goodIn_r _ [18, 6, 19, 20, 21, 4, 22, 23, 24, 25, 26, 27, 28, 29, 30, 31, 32, 33, 34, 35, 36, 37, 38, 39, 40, 41, 42, 43, 44, 45, 46] (by decide +kernel) (by decide +kernel)
set_option maxRecDepth 20000 in
theorem gX11_favouriteFreeCell_X11_favourite : GoodIn wsX11_favouriteFreeCell (wsV RX11 153 RX11 yX11_favourite wsX11_favourite) := goodIn_app (goodIn_of _ (by decide +kernel)) ggX11_favouriteFreeCell_X11_favourite
theorem dX11_favouriteFreeCell_0 : decode cX11_favouriteFreeCell 0 = .ok (.aload_n 0, 1) := by decide +kernel
theorem dX11_favouriteFreeCell_1 : decode cX11_favouriteFreeCell 1 = .ok (.aload_n 0, 1) := by decide +kernel
theorem dX11_favouriteFreeCell_2 : decode cX11_favouriteFreeCell 2 = .ok (.iload_n 1, 1) := by decide +kernel
theorem dX11_favouriteFreeCell_3 : decode cX11_favouriteFreeCell 3 = .ok (.invokevirtual 94, 3) := by decide +kernel
theorem dX11_favouriteFreeCell_6 : decode cX11_favouriteFreeCell 6 = .ok (.ifCond .ne 7, 3) := by decide +kernel
theorem dX11_favouriteFreeCell_9 : decode cX11_favouriteFreeCell 9 = .ok (.iconst 1, 1) := by decide +kernel
theorem dX11_favouriteFreeCell_10 : decode cX11_favouriteFreeCell 10 = .ok (.goto 4, 3) := by decide +kernel
theorem dX11_favouriteFreeCell_13 : decode cX11_favouriteFreeCell 13 = .ok (.iconst 0, 1) := by decide +kernel
theorem dX11_favouriteFreeCell_14 : decode cX11_favouriteFreeCell 14 = .ok (.iconst 0, 1) := by decide +kernel
theorem dX11_favouriteFreeCell_15 : decode cX11_favouriteFreeCell 15 = .ok (.iconst 0, 1) := by decide +kernel
theorem dX11_favouriteFreeCell_16 : decode cX11_favouriteFreeCell 16 = .ok (.invokevirtual 171, 3) := by decide +kernel
theorem dX11_favouriteFreeCell_19 : decode cX11_favouriteFreeCell 19 = .ok (.ifCond .eq 5, 3) := by decide +kernel
theorem dX11_favouriteFreeCell_22 : decode cX11_favouriteFreeCell 22 = .ok (.iconst 0, 1) := by decide +kernel
theorem dX11_favouriteFreeCell_23 : decode cX11_favouriteFreeCell 23 = .ok (.ireturn, 1) := by decide +kernel
theorem dX11_favouriteFreeCell_24 : decode cX11_favouriteFreeCell 24 = .ok (.aload_n 0, 1) := by decide +kernel
theorem dX11_favouriteFreeCell_25 : decode cX11_favouriteFreeCell 25 = .ok (.iload_n 1, 1) := by decide +kernel
theorem dX11_favouriteFreeCell_26 : decode cX11_favouriteFreeCell 26 = .ok (.invokevirtual 153, 3) := by decide +kernel
theorem dX11_favouriteFreeCell_29 : decode cX11_favouriteFreeCell 29 = .ok (.ireturn, 1) := by decide +kernel
set_option maxRecDepth 20000 in
theorem ggX11_envies_X11_areSiblings : GoodIn wsX11_envies wsX11_areSiblings := goodIn_r _ [5, 6, 7, 8, 4, 9, 10, 11, 12, 13, 39, 40, 41, 42, 43, 44, 45, 46, 47, 48, 49, 50, 51, 52, 53, 54, 55, 56, 57, 58] (by decide +kernel) (by decide +kernel)
set_option maxRecDepth 20000 in
theorem gX11_envies_X11_areSiblings : GoodIn wsX11_envies (wsV RX11 276 RX11 yX11_areSiblings wsX11_areSiblings) := goodIn_app (goodIn_of _ (by decide +kernel)) ggX11_envies_X11_areSiblings
set_option maxRecDepth 20000 in
theorem ggX11_envies_X11_fails : GoodIn wsX11_envies wsX11_fails := goodIn_r _ [17, 18, 39, 40, 41, 42, 43, 44, 45, 46, 47, 48, 49, 50, 51, 52, 53, 54, 55, 56, 57, 58] (by decide +kernel) (by decide +kernel)
set_option maxRecDepth 20000 in
theorem gX11_envies_X11_fails : GoodIn wsX11_envies (wsV RX11 171 RX11 yX11_fails wsX11_fails) := goodIn_app (goodIn_of _ (by decide +kernel)) ggX11_envies_X11_fails
set_option maxRecDepth 20000 in
theorem ggX11_envies_X11_hasEnvy : GoodIn wsX11_envies wsX11_hasEnvy := goodIn_r _ [22, 23, 24, 25, 4, 26, 10, 27, 28, 29, 30, 31, 32, 33, 34, 35, 36, 37, 38, 39, 40, 41, 42, 43, 44, 45, 46, 47, 48, 49, 50, 51, 52, 53, 54, 55, 56, 57, 58] (by decide +kernel) (by decide +kernel)
set_option maxRecDepth 20000 in
theorem gX11_envies_X11_hasEnvy : GoodIn wsX11_envies (wsV RX11 129 RX11 yX11_hasEnvy wsX11_hasEnvy) := goodIn_app (goodIn_of _ (by decide +kernel)) ggX11_envies_X11_hasEnvy
theorem dX11_envies_0 : decode cX11_envies 0 = .ok (.aload_n 0, 1) := by decide +kernel
theorem dX11_envies_1 : decode cX11_envies 1 = .ok (.aload_n 0, 1) := by decide +kernel
theorem dX11_envies_2 : decode cX11_envies 2 = .ok (.iload_n 1, 1) := by decide +kernel
theorem dX11_envies_3 : decode cX11_envies 3 = .ok (.iload_n 2, 1) := by decide +kernel
theorem dX11_envies_4 : decode cX11_envies 4 = .ok (.invokevirtual 276, 3) := by decide +kernel
theorem dX11_envies_7 : decode cX11_envies 7 = .ok (.ifCond .ne 7, 3) := by decide +kernel
theorem dX11_envies_10 : decode cX11_envies 10 = .ok (.iconst 1, 1) := by decide +kernel
theorem dX11_envies_11 : decode cX11_envies 11 = .ok (.goto 4, 3) := by decide +kernel
theorem dX11_envies_14 : decode cX11_envies 14 = .ok (.iconst 0, 1) := by decide +kernel
theorem dX11_envies_15 : decode cX11_envies 15 = .ok (.iconst 0, 1) := by decide +kernel
theorem dX11_envies_16 : decode cX11_envies 16 = .ok (.iconst 0, 1) := by decide +kernel
theorem dX11_envies_17 : decode cX11_envies 17 = .ok (.invokevirtual 171, 3) := by decide +kernel
theorem dX11_envies_20 : decode cX11_envies 20 = .ok (.ifCond .eq 5, 3) := by decide +kernel
theorem dX11_envies_23 : decode cX11_envies 23 = .ok (.iconst 0, 1) := by decide +kernel
theorem dX11_envies_24 : decode cX11_envies 24 = .ok (.ireturn, 1) := by decide +kernel
theorem dX11_envies_25 : decode cX11_envies 25 = .ok (.aload_n 0, 1) := by decide +kernel
theorem dX11_envies_26 : decode cX11_envies 26 = .ok (.iload_n 1, 1) := by decide +kernel
theorem dX11_envies_27 : decode cX11_envies 27 = .ok (.iload_n 2, 1) := by decide +kernel
theorem dX11_envies_28 : decode cX11_envies 28 = .ok (.invokevirtual 129, 3) := by decide +kernel
theorem dX11_envies_31 : decode cX11_envies 31 = .ok (.ireturn, 1) := by decide +kernel
set_option maxRecDepth 20000 in
theorem ggX11_isMild_X11_areSiblings : GoodIn wsX11_isMild wsX11_areSiblings := goodIn_r _ [5, 6, 7, 8, 4, 9, 10, 11, 12, 13, 43, 44, 45, 46, 47, 48, 49, 50, 51, 52, 53, 54, 55, 56, 57, 58, 59, 60, 61, 62] (by decide +kernel) (by decide +kernel)
set_option maxRecDepth 20000 in
theorem gX11_isMild_X11_areSiblings : GoodIn wsX11_isMild (wsV RX11 276 RX11 yX11_areSiblings wsX11_areSiblings) := goodIn_app (goodIn_of _ (by decide +kernel)) ggX11_isMild_X11_areSiblings
set_option maxRecDepth 20000 in
theorem ggX11_isMild_X11_hasEnvy : GoodIn wsX11_isMild wsX11_hasEnvy := goodIn_r _ [17, 18, 19, 20, 4, 21, 10, 22, 23, 24, 25, 26, 27, 28, 29, 30, 31, 32, 33, 43, 44, 45, 46, 47, 48, 49, 50, 51, 52, 53, 54, 55, 56, 57, 58, 59, 60, 61, 62] (by decide +kernel) (by decide +kernel)
set_option maxRecDepth 20000 in
theorem gX11_isMild_X11_hasEnvy : GoodIn wsX11_isMild (wsV RX11 129 RX11 yX11_hasEnvy wsX11_hasEnvy) := goodIn_app (goodIn_of _ (by decide +kernel)) ggX11_isMild_X11_hasEnvy
set_option maxRecDepth 20000 in
theorem ggX11_isMild_X11_fails : GoodIn wsX11_isMild wsX11_fails := goodIn_r _ [37, 38, 43, 44, 45, 46, 47, 48, 49, 50, 51, 52, 53, 54, 55, 56, 57, 58, 59, 60, 61, 62] (by decide +kernel) (by decide +kernel)
set_option maxRecDepth 20000 in
theorem gX11_isMild_X11_fails : GoodIn wsX11_isMild (wsV RX11 171 RX11 yX11_fails wsX11_fails) := goodIn_app (goodIn_of _ (by decide +kernel)) ggX11_isMild_X11_fails
set_option maxRecDepth 20000 in
theorem ggX11_isMild_X11_hasMildEnvy : GoodIn wsX11_isMild wsX11_hasMildEnvy := goodIn_r _ [42, 10, 22, 23, 24, 4, 25, 26, 27, 28, 29, 18, 19, 20, 21, 30, 31, 32, 33, 43, 44, 45, 46, 47, 48, 49, 50, 51, 52, 53, 54, 55, 56, 57, 58, 59, 60, 61, 62] (by decide +kernel) (by decide +kernel)
set_option maxRecDepth 20000 in
theorem gX11_isMild_X11_hasMildEnvy : GoodIn wsX11_isMild (wsV RX11 285 RX11 yX11_hasMildEnvy wsX11_hasMildEnvy) := goodIn_app (goodIn_of _ (by decide +kernel)) ggX11_isMild_X11_hasMildEnvy
theorem dX11_isMild_0 : decode cX11_isMild 0 = .ok (.aload_n 0, 1) := by decide +kernel
theorem dX11_isMild_1 : decode cX11_isMild 1 = .ok (.iload_n 1, 1) := by decide +kernel
theorem dX11_isMild_2 : decode cX11_isMild 2 = .ok (.iload_n 2, 1) := by decide +kernel
theorem dX11_isMild_3 : decode cX11_isMild 3 = .ok (.invokevirtual 276, 3) := by decide +kernel
theorem dX11_isMild_6 : decode cX11_isMild 6 = .ok (.istore_n 3, 1) := by decide +kernel
theorem dX11_isMild_7 : decode cX11_isMild 7 = .ok (.aload_n 0, 1) := by decide +kernel
theorem dX11_isMild_8 : decode cX11_isMild 8 = .ok (.iload_n 3, 1) := by decide +kernel
theorem dX11_isMild_9 : decode cX11_isMild 9 = .ok (.ifCond .ne 7, 3) := by decide +kernel
theorem dX11_isMild_12 : decode cX11_isMild 12 = .ok (.iconst 1, 1) := by decide +kernel
theorem dX11_isMild_13 : decode cX11_isMild 13 = .ok (.goto 4, 3) := by decide +kernel
theorem dX11_isMild_16 : decode cX11_isMild 16 = .ok (.iconst 0, 1) := by decide +kernel
theorem dX11_isMild_17 : decode cX11_isMild 17 = .ok (.iload_n 3, 1) := by decide +kernel
theorem dX11_isMild_18 : decode cX11_isMild 18 = .ok (.ifCond .eq 16, 3) := by decide +kernel
theorem dX11_isMild_21 : decode cX11_isMild 21 = .ok (.aload_n 0, 1) := by decide +kernel
theorem dX11_isMild_22 : decode cX11_isMild 22 = .ok (.iload_n 1, 1) := by decide +kernel
theorem dX11_isMild_23 : decode cX11_isMild 23 = .ok (.iload_n 2, 1) := by decide +kernel
theorem dX11_isMild_24 : decode cX11_isMild 24 = .ok (.invokevirtual 129, 3) := by decide +kernel
theorem dX11_isMild_27 : decode cX11_isMild 27 = .ok (.ifCond .ne 7, 3) := by decide +kernel
theorem dX11_isMild_30 : decode cX11_isMild 30 = .ok (.iconst 1, 1) := by decide +kernel
theorem dX11_isMild_31 : decode cX11_isMild 31 = .ok (.goto 4, 3) := by decide +kernel
theorem dX11_isMild_34 : decode cX11_isMild 34 = .ok (.iconst 0, 1) := by decide +kernel
theorem dX11_isMild_35 : decode cX11_isMild 35 = .ok (.iconst 0, 1) := by decide +kernel
theorem dX11_isMild_36 : decode cX11_isMild 36 = .ok (.invokevirtual 171, 3) := by decide +kernel
theorem dX11_isMild_39 : decode cX11_isMild 39 = .ok (.ifCond .eq 5, 3) := by decide +kernel
theorem dX11_isMild_42 : decode cX11_isMild 42 = .ok (.iconst 0, 1) := by decide +kernel
theorem dX11_isMild_43 : decode cX11_isMild 43 = .ok (.ireturn, 1) := by decide +kernel
theorem dX11_isMild_44 : decode cX11_isMild 44 = .ok (.aload_n 0, 1) := by decide +kernel
theorem dX11_isMild_45 : decode cX11_isMild 45 = .ok (.iload_n 1, 1) := by decide +kernel
theorem dX11_isMild_46 : decode cX11_isMild 46 = .ok (.iload_n 2, 1) := by decide +kernel
theorem dX11_isMild_47 : decode cX11_isMild 47 = .ok (.invokevirtual 285, 3) := by decide +kernel
theorem dX11_isMild_50 : decode cX11_isMild 50 = .ok (.ireturn, 1) := by decide +kernel
set_option maxRecDepth 20000 in
theorem ggX11_envyCount_X11_envyTotal : GoodIn wsX11_envyCount wsX11_envyTotal := goodIn_r _ [5, 6, 7, 8, 9, 4, 10, 11, 12, 13, 14, 15, 16, 17, 18, 19, 20, 21, 22, 23, 24, 25, 26, 32, 33, 34, 35, 36, 37, 38, 39, 40, 41, 42, 43, 44, 45, 46, 47, 48, 49, 50, 51] (by decide +kernel) (by decide +kernel)
set_option maxRecDepth 20000 in
theorem gX11_envyCount_X11_envyTotal : GoodIn wsX11_envyCount (wsV RX11 288 RX11 yX11_envyTotal wsX11_envyTotal) := goodIn_app (goodIn_of _ (by decide +kernel)) ggX11_envyCount_X11_envyTotal
set_option maxRecDepth 20000 in
theorem ggX11_envyCount_X11_plain : GoodIn wsX11_envyCount wsX11_plain := goodIn_r _ [30, 31, 32, 33, 34, 35, 36, 37, 38, 39, 40, 41, 42, 43, 44, 45, 46, 47, 48, 49, 50, 51] (by decide +kernel) (by decide +kernel)
set_option maxRecDepth 20000 in
theorem gX11_envyCount_X11_plain : GoodIn wsX11_envyCount (wsV RX11 273 RX11 yX11_plain wsX11_plain) := goodIn_app (goodIn_of _ (by decide +kernel)) ggX11_envyCount_X11_plain
theorem dX11_envyCount_0 : decode cX11_envyCount 0 = .ok (.aload_n 0, 1) := by decide +kernel
theorem dX11_envyCount_1 : decode cX11_envyCount 1 = .ok (.aload_n 0, 1) := by decide +kernel
theorem dX11_envyCount_2 : decode cX11_envyCount 2 = .ok (.invokevirtual 288, 3) := by decide +kernel
theorem dX11_envyCount_5 : decode cX11_envyCount 5 = .ok (.invokevirtual 273, 3) := by decide +kernel
theorem dX11_envyCount_8 : decode cX11_envyCount 8 = .ok (.ireturn, 1) := by decide +kernel
set_option maxRecDepth 20000 in
theorem ggX11_strongEnvyCount_X11_hasEnvy : GoodIn wsX11_strongEnvyCount wsX11_hasEnvy := goodIn_r _ [7, 8, 9, 10, 6, 11, 2, 12, 13, 14, 15, 16, 17, 18, 19, 20, 21, 22, 23, 28, 29, 30, 31, 32, 33, 34, 35, 36, 37, 38, 39, 40, 41, 42, 43, 44, 45, 46, 47] (by decide +kernel) (by decide +kernel)
set_option maxRecDepth 20000 in
theorem gX11_strongEnvyCount_X11_hasEnvy : GoodIn wsX11_strongEnvyCount (wsV RX11 129 RX11 yX11_hasEnvy wsX11_hasEnvy) := goodIn_app (goodIn_of _ (by decide +kernel)) ggX11_strongEnvyCount_X11_hasEnvy
set_option maxRecDepth 20000 in
theorem ggX11_strongEnvyCount_X11_hasMildEnvy : GoodIn wsX11_strongEnvyCount wsX11_hasMildEnvy := goodIn_r _ [27, 2, 12, 13, 14, 6, 15, 16, 17, 18, 19, 8, 9, 10, 11, 20, 21, 22, 23, 28, 29, 30, 31, 32, 33, 34, 35, 36, 37, 38, 39, 40, 41, 42, 43, 44, 45, 46, 47] (by decide +kernel) (by decide +kernel)
set_option maxRecDepth 20000 in
theorem gX11_strongEnvyCount_X11_hasMildEnvy : GoodIn wsX11_strongEnvyCount (wsV RX11 285 RX11 yX11_hasMildEnvy wsX11_hasMildEnvy) := goodIn_app (goodIn_of _ (by decide +kernel)) ggX11_strongEnvyCount_X11_hasMildEnvy
theorem dX11_strongEnvyCount_0 : decode cX11_strongEnvyCount 0 = .ok (.aload_n 0, 1) := by decide +kernel
theorem dX11_strongEnvyCount_1 : decode cX11_strongEnvyCount 1 = .ok (.iconst 0, 1) := by decide +kernel
theorem dX11_strongEnvyCount_2 : decode cX11_strongEnvyCount 2 = .ok (.putfield 1, 3) := by decide +kernel
theorem dX11_strongEnvyCount_5 : decode cX11_strongEnvyCount 5 = .ok (.iconst 0, 1) := by decide +kernel
theorem dX11_strongEnvyCount_6 : decode cX11_strongEnvyCount 6 = .ok (.istore_n 1, 1) := by decide +kernel
theorem dX11_strongEnvyCount_7 : decode cX11_strongEnvyCount 7 = .ok (.iconst 0, 1) := by decide +kernel
theorem dX11_strongEnvyCount_8 : decode cX11_strongEnvyCount 8 = .ok (.istore_n 2, 1) := by decide +kernel
theorem dX11_strongEnvyCount_9 : decode cX11_strongEnvyCount 9 = .ok (.iload_n 2, 1) := by decide +kernel
theorem dX11_strongEnvyCount_10 : decode cX11_strongEnvyCount 10 = .ok (.aload_n 0, 1) := by decide +kernel
theorem dX11_strongEnvyCount_11 : decode cX11_strongEnvyCount 11 = .ok (.getfield 13, 3) := by decide +kernel
theorem dX11_strongEnvyCount_14 : decode cX11_strongEnvyCount 14 = .ok (.iconst 1, 1) := by decide +kernel
theorem dX11_strongEnvyCount_15 : decode cX11_strongEnvyCount 15 = .ok (.iaload, 1) := by decide +kernel
theorem dX11_strongEnvyCount_16 : decode cX11_strongEnvyCount 16 = .ok (.if_icmp .ge 53, 3) := by decide +kernel
theorem dX11_strongEnvyCount_19 : decode cX11_strongEnvyCount 19 = .ok (.iconst 0, 1) := by decide +kernel
theorem dX11_strongEnvyCount_20 : decode cX11_strongEnvyCount 20 = .ok (.istore_n 3, 1) := by decide +kernel
theorem dX11_strongEnvyCount_21 : decode cX11_strongEnvyCount 21 = .ok (.iload_n 3, 1) := by decide +kernel
theorem dX11_strongEnvyCount_22 : decode cX11_strongEnvyCount 22 = .ok (.aload_n 0, 1) := by decide +kernel
theorem dX11_strongEnvyCount_23 : decode cX11_strongEnvyCount 23 = .ok (.getfield 13, 3) := by decide +kernel
theorem dX11_strongEnvyCount_26 : decode cX11_strongEnvyCount 26 = .ok (.iconst 1, 1) := by decide +kernel
theorem dX11_strongEnvyCount_27 : decode cX11_strongEnvyCount 27 = .ok (.iaload, 1) := by decide +kernel
theorem dX11_strongEnvyCount_28 : decode cX11_strongEnvyCount 28 = .ok (.if_icmp .ge 35, 3) := by decide +kernel
theorem dX11_strongEnvyCount_31 : decode cX11_strongEnvyCount 31 = .ok (.iload_n 1, 1) := by decide +kernel
theorem dX11_strongEnvyCount_32 : decode cX11_strongEnvyCount 32 = .ok (.aload_n 0, 1) := by decide +kernel
theorem dX11_strongEnvyCount_33 : decode cX11_strongEnvyCount 33 = .ok (.iload_n 2, 1) := by decide +kernel
theorem dX11_strongEnvyCount_34 : decode cX11_strongEnvyCount 34 = .ok (.iload_n 3, 1) := by decide +kernel
theorem dX11_strongEnvyCount_35 : decode cX11_strongEnvyCount 35 = .ok (.invokevirtual 129, 3) := by decide +kernel
theorem dX11_strongEnvyCount_38 : decode cX11_strongEnvyCount 38 = .ok (.ifCond .eq 16, 3) := by decide +kernel
theorem dX11_strongEnvyCount_41 : decode cX11_strongEnvyCount 41 = .ok (.aload_n 0, 1) := by decide +kernel
theorem dX11_strongEnvyCount_42 : decode cX11_strongEnvyCount 42 = .ok (.iload_n 2, 1) := by decide +kernel
theorem dX11_strongEnvyCount_43 : decode cX11_strongEnvyCount 43 = .ok (.iload_n 3, 1) := by decide +kernel
theorem dX11_strongEnvyCount_44 : decode cX11_strongEnvyCount 44 = .ok (.invokevirtual 285, 3) := by decide +kernel
theorem dX11_strongEnvyCount_47 : decode cX11_strongEnvyCount 47 = .ok (.ifCond .ne 7, 3) := by decide +kernel
theorem dX11_strongEnvyCount_50 : decode cX11_strongEnvyCount 50 = .ok (.iconst 1, 1) := by decide +kernel
theorem dX11_strongEnvyCount_51 : decode cX11_strongEnvyCount 51 = .ok (.goto 4, 3) := by decide +kernel
theorem dX11_strongEnvyCount_54 : decode cX11_strongEnvyCount 54 = .ok (.iconst 0, 1) := by decide +kernel
theorem dX11_strongEnvyCount_55 : decode cX11_strongEnvyCount 55 = .ok (.iadd, 1) := by decide +kernel
theorem dX11_strongEnvyCount_56 : decode cX11_strongEnvyCount 56 = .ok (.istore_n 1, 1) := by decide +kernel
theorem dX11_strongEnvyCount_57 : decode cX11_strongEnvyCount 57 = .ok (.iinc 3 1, 3) := by decide +kernel
theorem dX11_strongEnvyCount_60 : decode cX11_strongEnvyCount 60 = .ok (.goto (-39), 3) := by decide +kernel
theorem dX11_strongEnvyCount_63 : decode cX11_strongEnvyCount 63 = .ok (.iinc 2 1, 3) := by decide +kernel
theorem dX11_strongEnvyCount_66 : decode cX11_strongEnvyCount 66 = .ok (.goto (-57), 3) := by decide +kernel
theorem dX11_strongEnvyCount_69 : decode cX11_strongEnvyCount 69 = .ok (.iload_n 1, 1) := by decide +kernel
theorem dX11_strongEnvyCount_70 : decode cX11_strongEnvyCount 70 = .ok (.ireturn, 1) := by decide +kernel
set_option maxRecDepth 20000 in
theorem ggX11_enviersOf_X11_hasEnvy : GoodIn wsX11_enviersOf wsX11_hasEnvy := goodIn_r _ [6, 7, 8, 9, 5, 10, 1, 11, 12, 13, 14, 15, 16, 17, 18, 19, 20, 21, 22, 23, 24, 25, 26, 27, 28, 29, 30, 31, 32, 33, 34, 35, 36, 37, 38, 39, 40, 41, 42] (by decide +kernel) (by decide +kernel)
set_option maxRecDepth 20000 in
theorem gX11_enviersOf_X11_hasEnvy : GoodIn wsX11_enviersOf (wsV RX11 129 RX11 yX11_hasEnvy wsX11_hasEnvy) := goodIn_app (goodIn_of _ (by decide +kernel)) ggX11_enviersOf_X11_hasEnvy
theorem dX11_enviersOf_0 : decode cX11_enviersOf 0 = .ok (.iconst 0, 1) := by decide +kernel
theorem dX11_enviersOf_1 : decode cX11_enviersOf 1 = .ok (.istore_n 2, 1) := by decide +kernel
theorem dX11_enviersOf_2 : decode cX11_enviersOf 2 = .ok (.iconst 0, 1) := by decide +kernel
theorem dX11_enviersOf_3 : decode cX11_enviersOf 3 = .ok (.istore_n 3, 1) := by decide +kernel
theorem dX11_enviersOf_4 : decode cX11_enviersOf 4 = .ok (.iload_n 3, 1) := by decide +kernel
theorem dX11_enviersOf_5 : decode cX11_enviersOf 5 = .ok (.aload_n 0, 1) := by decide +kernel
theorem dX11_enviersOf_6 : decode cX11_enviersOf 6 = .ok (.getfield 13, 3) := by decide +kernel
theorem dX11_enviersOf_9 : decode cX11_enviersOf 9 = .ok (.iconst 1, 1) := by decide +kernel
theorem dX11_enviersOf_10 : decode cX11_enviersOf 10 = .ok (.iaload, 1) := by decide +kernel
theorem dX11_enviersOf_11 : decode cX11_enviersOf 11 = .ok (.if_icmp .ge 26, 3) := by decide +kernel
theorem dX11_enviersOf_14 : decode cX11_enviersOf 14 = .ok (.iload_n 2, 1) := by decide +kernel
theorem dX11_enviersOf_15 : decode cX11_enviersOf 15 = .ok (.aload_n 0, 1) := by decide +kernel
theorem dX11_enviersOf_16 : decode cX11_enviersOf 16 = .ok (.iload_n 3, 1) := by decide +kernel
theorem dX11_enviersOf_17 : decode cX11_enviersOf 17 = .ok (.iload_n 1, 1) := by decide +kernel
theorem dX11_enviersOf_18 : decode cX11_enviersOf 18 = .ok (.invokevirtual 129, 3) := by decide +kernel
theorem dX11_enviersOf_21 : decode cX11_enviersOf 21 = .ok (.ifCond .eq 7, 3) := by decide +kernel
theorem dX11_enviersOf_24 : decode cX11_enviersOf 24 = .ok (.iconst 1, 1) := by decide +kernel
theorem dX11_enviersOf_25 : decode cX11_enviersOf 25 = .ok (.goto 4, 3) := by decide +kernel
theorem dX11_enviersOf_28 : decode cX11_enviersOf 28 = .ok (.iconst 0, 1) := by decide +kernel
theorem dX11_enviersOf_29 : decode cX11_enviersOf 29 = .ok (.iadd, 1) := by decide +kernel
theorem dX11_enviersOf_30 : decode cX11_enviersOf 30 = .ok (.istore_n 2, 1) := by decide +kernel
theorem dX11_enviersOf_31 : decode cX11_enviersOf 31 = .ok (.iinc 3 1, 3) := by decide +kernel
theorem dX11_enviersOf_34 : decode cX11_enviersOf 34 = .ok (.goto (-30), 3) := by decide +kernel
theorem dX11_enviersOf_37 : decode cX11_enviersOf 37 = .ok (.iload_n 2, 1) := by decide +kernel
theorem dX11_enviersOf_38 : decode cX11_enviersOf 38 = .ok (.ireturn, 1) := by decide +kernel
set_option maxRecDepth 20000 in
theorem ggX11_mostEnvied_X11_enviersOf : GoodIn wsX11_mostEnvied wsX11_enviersOf := goodIn_r _ [7, 2, 8, 9, 10, 6, 11, 12, 13, 14, 15, 16, 17, 18, 19, 20, 21, 22, 23, 24, 25, 26, 27, 28, 29, 30, 31, 32, 33, 34, 35, 36, 37, 38, 39, 40, 41, 42, 43, 44, 45, 46, 47] (by decide +kernel) (by decide +kernel)
set_option maxRecDepth 20000 in
theorem gX11_mostEnvied_X11_enviersOf : GoodIn wsX11_mostEnvied (wsV RX11 291 RX11 yX11_enviersOf wsX11_enviersOf) := goodIn_app (goodIn_of _ (by decide +kernel)) ggX11_mostEnvied_X11_enviersOf
theorem dX11_mostEnvied_0 : decode cX11_mostEnvied 0 = .ok (.aload_n 0, 1) := by decide +kernel
theorem dX11_mostEnvied_1 : decode cX11_mostEnvied 1 = .ok (.iconst 0, 1) := by decide +kernel
theorem dX11_mostEnvied_2 : decode cX11_mostEnvied 2 = .ok (.putfield 1, 3) := by decide +kernel
theorem dX11_mostEnvied_5 : decode cX11_mostEnvied 5 = .ok (.iconst 0, 1) := by decide +kernel
theorem dX11_mostEnvied_6 : decode cX11_mostEnvied 6 = .ok (.istore_n 1, 1) := by decide +kernel
theorem dX11_mostEnvied_7 : decode cX11_mostEnvied 7 = .ok (.iconst 1, 1) := by decide +kernel
theorem dX11_mostEnvied_8 : decode cX11_mostEnvied 8 = .ok (.istore_n 2, 1) := by decide +kernel
theorem dX11_mostEnvied_9 : decode cX11_mostEnvied 9 = .ok (.iload_n 2, 1) := by decide +kernel
theorem dX11_mostEnvied_10 : decode cX11_mostEnvied 10 = .ok (.aload_n 0, 1) := by decide +kernel
theorem dX11_mostEnvied_11 : decode cX11_mostEnvied 11 = .ok (.getfield 13, 3) := by decide +kernel
theorem dX11_mostEnvied_14 : decode cX11_mostEnvied 14 = .ok (.iconst 1, 1) := by decide +kernel
theorem dX11_mostEnvied_15 : decode cX11_mostEnvied 15 = .ok (.iaload, 1) := by decide +kernel
theorem dX11_mostEnvied_16 : decode cX11_mostEnvied 16 = .ok (.if_icmp .ge 24, 3) := by decide +kernel
theorem dX11_mostEnvied_19 : decode cX11_mostEnvied 19 = .ok (.aload_n 0, 1) := by decide +kernel
theorem dX11_mostEnvied_20 : decode cX11_mostEnvied 20 = .ok (.iload_n 2, 1) := by decide +kernel
theorem dX11_mostEnvied_21 : decode cX11_mostEnvied 21 = .ok (.invokevirtual 291, 3) := by decide +kernel
theorem dX11_mostEnvied_24 : decode cX11_mostEnvied 24 = .ok (.aload_n 0, 1) := by decide +kernel
theorem dX11_mostEnvied_25 : decode cX11_mostEnvied 25 = .ok (.iload_n 1, 1) := by decide +kernel
theorem dX11_mostEnvied_26 : decode cX11_mostEnvied 26 = .ok (.invokevirtual 291, 3) := by decide +kernel
theorem dX11_mostEnvied_29 : decode cX11_mostEnvied 29 = .ok (.if_icmp .le 5, 3) := by decide +kernel
theorem dX11_mostEnvied_32 : decode cX11_mostEnvied 32 = .ok (.iload_n 2, 1) := by decide +kernel
theorem dX11_mostEnvied_33 : decode cX11_mostEnvied 33 = .ok (.istore_n 1, 1) := by decide +kernel
theorem dX11_mostEnvied_34 : decode cX11_mostEnvied 34 = .ok (.iinc 2 1, 3) := by decide +kernel
theorem dX11_mostEnvied_37 : decode cX11_mostEnvied 37 = .ok (.goto (-28), 3) := by decide +kernel
theorem dX11_mostEnvied_40 : decode cX11_mostEnvied 40 = .ok (.iload_n 1, 1) := by decide +kernel
theorem dX11_mostEnvied_41 : decode cX11_mostEnvied 41 = .ok (.ireturn, 1) := by decide +kernel
set_option maxRecDepth 20000 in
theorem ggX11_isSatisfied_X11_isSibling : GoodIn wsX11_isSatisfied wsX11_isSibling := goodIn_r _ [5, 6, 7, 8, 4, 9, 43, 44, 45, 46, 47, 48, 49, 50, 51, 52, 53, 54, 55, 56, 57, 58, 59, 60, 61, 62] (by decide +kernel) (by decide +kernel)
set_option maxRecDepth 20000 in
theorem gX11_isSatisfied_X11_isSibling : GoodIn wsX11_isSatisfied (wsV RX11 94 RX11 yX11_isSibling wsX11_isSibling) := goodIn_app (goodIn_of _ (by decide +kernel)) ggX11_isSatisfied_X11_isSibling
set_option maxRecDepth 20000 in
theorem ggX11_isSatisfied_X11_fails : GoodIn wsX11_isSatisfied wsX11_fails := goodIn_r _ [13, 14, 43, 44, 45, 46, 47, 48, 49, 50, 51, 52, 53, 54, 55, 56, 57, 58, 59, 60, 61, 62] (by decide +kernel) (by decide +kernel)
set_option maxRecDepth 20000 in
theorem gX11_isSatisfied_X11_fails : GoodIn wsX11_isSatisfied (wsV RX11 171 RX11 yX11_fails wsX11_fails) := goodIn_app (goodIn_of _ (by decide +kernel)) ggX11_isSatisfied_X11_fails
set_option maxRecDepth 20000 in
theorem ggX11_isSatisfied_X11_isContent : GoodIn wsX11_isSatisfied wsX11_isContent := goodIn_r _ [18, 6, 19, 20, 21, 4, 22, 23, 24, 25, 26, 27, 28, 29, 30, 31, 32, 33, 34, 35, 36, 37, 38, 39, 40, 41, 42, 43, 44, 45, 46, 47, 48, 49, 50, 51, 52, 53, 54, 55, 56, 57, 58, 59, 60, 61, 62] (by decide +kernel) (by decide +kernel)
set_option maxRecDepth 20000 in
theorem gX11_isSatisfied_X11_isContent : GoodIn wsX11_isSatisfied (wsV RX11 126 RX11 yX11_isContent wsX11_isContent) := goodIn_app (goodIn_of _ (by decide +kernel)) ggX11_isSatisfied_X11_isContent
theorem dX11_isSatisfied_0 : decode cX11_isSatisfied 0 = .ok (.aload_n 0, 1) := by decide +kernel
theorem dX11_isSatisfied_1 : decode cX11_isSatisfied 1 = .ok (.aload_n 0, 1) := by decide +kernel
theorem dX11_isSatisfied_2 : decode cX11_isSatisfied 2 = .ok (.iload_n 1, 1) := by decide +kernel
theorem dX11_isSatisfied_3 : decode cX11_isSatisfied 3 = .ok (.invokevirtual 94, 3) := by decide +kernel
theorem dX11_isSatisfied_6 : decode cX11_isSatisfied 6 = .ok (.ifCond .ne 7, 3) := by decide +kernel
theorem dX11_isSatisfied_9 : decode cX11_isSatisfied 9 = .ok (.iconst 1, 1) := by decide +kernel
theorem dX11_isSatisfied_10 : decode cX11_isSatisfied 10 = .ok (.goto 4, 3) := by decide +kernel
theorem dX11_isSatisfied_13 : decode cX11_isSatisfied 13 = .ok (.iconst 0, 1) := by decide +kernel
theorem dX11_isSatisfied_14 : decode cX11_isSatisfied 14 = .ok (.iconst 0, 1) := by decide +kernel
theorem dX11_isSatisfied_15 : decode cX11_isSatisfied 15 = .ok (.iconst 0, 1) := by decide +kernel
theorem dX11_isSatisfied_16 : decode cX11_isSatisfied 16 = .ok (.invokevirtual 171, 3) := by decide +kernel
theorem dX11_isSatisfied_19 : decode cX11_isSatisfied 19 = .ok (.ifCond .eq 5, 3) := by decide +kernel
theorem dX11_isSatisfied_22 : decode cX11_isSatisfied 22 = .ok (.iconst 0, 1) := by decide +kernel
theorem dX11_isSatisfied_23 : decode cX11_isSatisfied 23 = .ok (.ireturn, 1) := by decide +kernel
theorem dX11_isSatisfied_24 : decode cX11_isSatisfied 24 = .ok (.aload_n 0, 1) := by decide +kernel
theorem dX11_isSatisfied_25 : decode cX11_isSatisfied 25 = .ok (.iload_n 1, 1) := by decide +kernel
theorem dX11_isSatisfied_26 : decode cX11_isSatisfied 26 = .ok (.invokevirtual 126, 3) := by decide +kernel
theorem dX11_isSatisfied_29 : decode cX11_isSatisfied 29 = .ok (.ireturn, 1) := by decide +kernel
set_option maxRecDepth 20000 in
theorem ggX11_satisfiedCount_X11_contentCount : GoodIn wsX11_satisfiedCount wsX11_contentCount := goodIn_r _ [5, 6, 7, 8, 9, 4, 10, 11, 12, 13, 14, 15, 16, 17, 18, 19, 20, 21, 22, 23, 24, 25, 26, 27, 28, 29, 30, 31, 32, 33, 34, 40, 41, 42, 43, 44, 45, 46, 47, 48, 49, 50, 51, 52, 53, 54, 55, 56, 57, 58, 59] (by decide +kernel) (by decide +kernel)
set_option maxRecDepth 20000 in
theorem gX11_satisfiedCount_X11_contentCount : GoodIn wsX11_satisfiedCount (wsV RX11 150 RX11 yX11_contentCount wsX11_contentCount) := goodIn_app (goodIn_of _ (by decide +kernel)) ggX11_satisfiedCount_X11_contentCount
set_option maxRecDepth 20000 in
theorem ggX11_satisfiedCount_X11_plain : GoodIn wsX11_satisfiedCount wsX11_plain := goodIn_r _ [38, 39, 40, 41, 42, 43, 44, 45, 46, 47, 48, 49, 50, 51, 52, 53, 54, 55, 56, 57, 58, 59] (by decide +kernel) (by decide +kernel)
set_option maxRecDepth 20000 in
theorem gX11_satisfiedCount_X11_plain : GoodIn wsX11_satisfiedCount (wsV RX11 273 RX11 yX11_plain wsX11_plain) := goodIn_app (goodIn_of _ (by decide +kernel)) ggX11_satisfiedCount_X11_plain
theorem dX11_satisfiedCount_0 : decode cX11_satisfiedCount 0 = .ok (.aload_n 0, 1) := by decide +kernel
theorem dX11_satisfiedCount_1 : decode cX11_satisfiedCount 1 = .ok (.aload_n 0, 1) := by decide +kernel
theorem dX11_satisfiedCount_2 : decode cX11_satisfiedCount 2 = .ok (.invokevirtual 150, 3) := by decide +kernel
theorem dX11_satisfiedCount_5 : decode cX11_satisfiedCount 5 = .ok (.invokevirtual 273, 3) := by decide +kernel
theorem dX11_satisfiedCount_8 : decode cX11_satisfiedCount 8 = .ok (.ireturn, 1) := by decide +kernel
set_option maxRecDepth 20000 in
theorem ggX11_envyCycleLength_X11_isSibling : GoodIn wsX11_envyCycleLength wsX11_isSibling := goodIn_r _ [5, 6, 7, 8, 4, 9, 45, 46, 47, 48, 49, 50, 51, 52, 53, 54, 55, 56, 57, 58, 59, 60, 61, 62, 63, 64] (by decide +kernel) (by decide +kernel)
set_option maxRecDepth 20000 in
theorem gX11_envyCycleLength_X11_isSibling : GoodIn wsX11_envyCycleLength (wsV RX11 94 RX11 yX11_isSibling wsX11_isSibling) := goodIn_app (goodIn_of _ (by decide +kernel)) ggX11_envyCycleLength_X11_isSibling
set_option maxRecDepth 20000 in
theorem ggX11_envyCycleLength_X11_fails : GoodIn wsX11_envyCycleLength wsX11_fails := goodIn_r _ [13, 14, 45, 46, 47, 48, 49, 50, 51, 52, 53, 54, 55, 56, 57, 58, 59, 60, 61, 62, 63, 64] (by decide +kernel) (by decide +kernel)
set_option maxRecDepth 20000 in
theorem gX11_envyCycleLength_X11_fails : GoodIn wsX11_envyCycleLength (wsV RX11 171 RX11 yX11_fails wsX11_fails) := goodIn_app (goodIn_of _ (by decide +kernel)) ggX11_envyCycleLength_X11_fails
set_option maxRecDepth 20000 in
theorem ggX11_envyCycleLength_X11_findCycle : GoodIn wsX11_envyCycleLength wsX11_findCycle := goodIn_r _ [18, 19, 20, 21, 22, 23, 4, 24, 6, 25, 26, 27, 28, 29, 30, 31, 32, 33, 34, 35, 36, 37, 38, 39, 40, 41, 42, 43, 44, 45, 46, 47, 48, 49, 50, 51, 52, 53, 54, 55, 56, 57, 58, 59, 60, 61, 62, 63, 64] (by decide +kernel) (by decide +kernel)
set_option maxRecDepth 20000 in
theorem gX11_envyCycleLength_X11_findCycle : GoodIn wsX11_envyCycleLength (wsV RX11 156 RX11 yX11_findCycle wsX11_findCycle) := goodIn_app (goodIn_of _ (by decide +kernel)) ggX11_envyCycleLength_X11_findCycle
theorem dX11_envyCycleLength_0 : decode cX11_envyCycleLength 0 = .ok (.aload_n 0, 1) := by decide +kernel
theorem dX11_envyCycleLength_1 : decode cX11_envyCycleLength 1 = .ok (.aload_n 0, 1) := by decide +kernel
theorem dX11_envyCycleLength_2 : decode cX11_envyCycleLength 2 = .ok (.iload_n 1, 1) := by decide +kernel
theorem dX11_envyCycleLength_3 : decode cX11_envyCycleLength 3 = .ok (.invokevirtual 94, 3) := by decide +kernel
theorem dX11_envyCycleLength_6 : decode cX11_envyCycleLength 6 = .ok (.ifCond .ne 7, 3) := by decide +kernel
theorem dX11_envyCycleLength_9 : decode cX11_envyCycleLength 9 = .ok (.iconst 1, 1) := by decide +kernel
theorem dX11_envyCycleLength_10 : decode cX11_envyCycleLength 10 = .ok (.goto 4, 3) := by decide +kernel
theorem dX11_envyCycleLength_13 : decode cX11_envyCycleLength 13 = .ok (.iconst 0, 1) := by decide +kernel
theorem dX11_envyCycleLength_14 : decode cX11_envyCycleLength 14 = .ok (.iconst 0, 1) := by decide +kernel
theorem dX11_envyCycleLength_15 : decode cX11_envyCycleLength 15 = .ok (.iconst 0, 1) := by decide +kernel
theorem dX11_envyCycleLength_16 : decode cX11_envyCycleLength 16 = .ok (.invokevirtual 171, 3) := by decide +kernel
theorem dX11_envyCycleLength_19 : decode cX11_envyCycleLength 19 = .ok (.ifCond .eq 5, 3) := by decide +kernel
theorem dX11_envyCycleLength_22 : decode cX11_envyCycleLength 22 = .ok (.iconst 0, 1) := by decide +kernel
theorem dX11_envyCycleLength_23 : decode cX11_envyCycleLength 23 = .ok (.ireturn, 1) := by decide +kernel
theorem dX11_envyCycleLength_24 : decode cX11_envyCycleLength 24 = .ok (.aload_n 0, 1) := by decide +kernel
theorem dX11_envyCycleLength_25 : decode cX11_envyCycleLength 25 = .ok (.iload_n 1, 1) := by decide +kernel
theorem dX11_envyCycleLength_26 : decode cX11_envyCycleLength 26 = .ok (.invokevirtual 156, 3) := by decide +kernel
theorem dX11_envyCycleLength_29 : decode cX11_envyCycleLength 29 = .ok (.ireturn, 1) := by decide +kernel
set_option maxRecDepth 20000 in
theorem ggX11_envyCycleMember_X11_isSibling : GoodIn wsX11_envyCycleMember wsX11_isSibling := goodIn_r _ [6, 7, 8, 9, 5, 10, 45, 46, 47, 48, 49, 50, 51, 52, 53, 54, 55, 56, 57, 58, 59, 60, 61, 62, 63, 64] (by decide +kernel) (by decide +kernel)
set_option maxRecDepth 20000 in
theorem gX11_envyCycleMember_X11_isSibling : GoodIn wsX11_envyCycleMember (wsV RX11 94 RX11 yX11_isSibling wsX11_isSibling) := goodIn_app (goodIn_of _ (by decide +kernel)) ggX11_envyCycleMember_X11_isSibling
set_option maxRecDepth 20000 in
theorem ggX11_envyCycleMember_X11_findCycle : GoodIn wsX11_envyCycleMember wsX11_findCycle := goodIn_r _ [14, 15, 1, 16, 17, 18, 5, 19, 7, 20, 21, 22, 23, 24, 25, 26, 27, 28, 29, 30, 31, 32, 33, 34, 35, 36, 37, 38, 39, 45, 46, 47, 48, 49, 50, 51, 52, 53, 54, 55, 56, 57, 58, 59, 60, 61, 62, 63, 64] (by decide +kernel) (by decide +kernel)
set_option maxRecDepth 20000 in
theorem gX11_envyCycleMember_X11_findCycle : GoodIn wsX11_envyCycleMember (wsV RX11 156 RX11 yX11_findCycle wsX11_findCycle) := goodIn_app (goodIn_of _ (by decide +kernel)) ggX11_envyCycleMember_X11_findCycle
set_option maxRecDepth 20000 in
theorem ggX11_envyCycleMember_X11_in : GoodIn wsX11_envyCycleMember wsX11_in := goodIn_r _ [10] (by decide +kernel) (by decide +kernel)
set_option maxRecDepth 20000 in
theorem gX11_envyCycleMember_X11_in : GoodIn wsX11_envyCycleMember (va_wsS RX11 90 yX11_in wsX11_in) := goodIn_app (goodIn_of _ (by decide +kernel)) ggX11_envyCycleMember_X11_in
set_option maxRecDepth 20000 in
theorem ggX11_envyCycleMember_X11_fails : GoodIn wsX11_envyCycleMember wsX11_fails := goodIn_r _ [43, 44, 45, 46, 47, 48, 49, 50, 51, 52, 53, 54, 55, 56, 57, 58, 59, 60, 61, 62, 63, 64] (by decide +kernel) (by decide +kernel)
set_option maxRecDepth 20000 in
theorem gX11_envyCycleMember_X11_fails : GoodIn wsX11_envyCycleMember (wsV RX11 171 RX11 yX11_fails wsX11_fails) := goodIn_app (goodIn_of _ (by decide +kernel)) ggX11_envyCycleMember_X11_fails
theorem dX11_envyCycleMember_0 : decode cX11_envyCycleMember 0 = .ok (.aload_n 0, 1) := by decide +kernel
theorem dX11_envyCycleMember_1 : decode cX11_envyCycleMember 1 = .ok (.iload_n 1, 1) := by decide +kernel
theorem dX11_envyCycleMember_2 : decode cX11_envyCycleMember 2 = .ok (.invokevirtual 94, 3) := by decide +kernel
theorem dX11_envyCycleMember_5 : decode cX11_envyCycleMember 5 = .ok (.istore_n 3, 1) := by decide +kernel
theorem dX11_envyCycleMember_6 : decode cX11_envyCycleMember 6 = .ok (.aload_n 0, 1) := by decide +kernel
theorem dX11_envyCycleMember_7 : decode cX11_envyCycleMember 7 = .ok (.iload_n 3, 1) := by decide +kernel
theorem dX11_envyCycleMember_8 : decode cX11_envyCycleMember 8 = .ok (.ifCond .ne 7, 3) := by decide +kernel
theorem dX11_envyCycleMember_11 : decode cX11_envyCycleMember 11 = .ok (.iconst 1, 1) := by decide +kernel
theorem dX11_envyCycleMember_12 : decode cX11_envyCycleMember 12 = .ok (.goto 4, 3) := by decide +kernel
theorem dX11_envyCycleMember_15 : decode cX11_envyCycleMember 15 = .ok (.iconst 0, 1) := by decide +kernel
theorem dX11_envyCycleMember_16 : decode cX11_envyCycleMember 16 = .ok (.iload_n 3, 1) := by decide +kernel
theorem dX11_envyCycleMember_17 : decode cX11_envyCycleMember 17 = .ok (.ifCond .eq 30, 3) := by decide +kernel
theorem dX11_envyCycleMember_20 : decode cX11_envyCycleMember 20 = .ok (.iload_n 2, 1) := by decide +kernel
theorem dX11_envyCycleMember_21 : decode cX11_envyCycleMember 21 = .ok (.iconst 0, 1) := by decide +kernel
theorem dX11_envyCycleMember_22 : decode cX11_envyCycleMember 22 = .ok (.aload_n 0, 1) := by decide +kernel
theorem dX11_envyCycleMember_23 : decode cX11_envyCycleMember 23 = .ok (.iload_n 3, 1) := by decide +kernel
theorem dX11_envyCycleMember_24 : decode cX11_envyCycleMember 24 = .ok (.ifCond .eq 7, 3) := by decide +kernel
theorem dX11_envyCycleMember_27 : decode cX11_envyCycleMember 27 = .ok (.iload_n 1, 1) := by decide +kernel
theorem dX11_envyCycleMember_28 : decode cX11_envyCycleMember 28 = .ok (.goto 4, 3) := by decide +kernel
theorem dX11_envyCycleMember_31 : decode cX11_envyCycleMember 31 = .ok (.iconst 0, 1) := by decide +kernel
theorem dX11_envyCycleMember_32 : decode cX11_envyCycleMember 32 = .ok (.invokevirtual 156, 3) := by decide +kernel
theorem dX11_envyCycleMember_35 : decode cX11_envyCycleMember 35 = .ok (.iconst 1, 1) := by decide +kernel
theorem dX11_envyCycleMember_36 : decode cX11_envyCycleMember 36 = .ok (.isub, 1) := by decide +kernel
theorem dX11_envyCycleMember_37 : decode cX11_envyCycleMember 37 = .ok (.invokestatic 90, 3) := by decide +kernel
theorem dX11_envyCycleMember_40 : decode cX11_envyCycleMember 40 = .ok (.ifCond .ne 7, 3) := by decide +kernel
theorem dX11_envyCycleMember_43 : decode cX11_envyCycleMember 43 = .ok (.iconst 1, 1) := by decide +kernel
theorem dX11_envyCycleMember_44 : decode cX11_envyCycleMember 44 = .ok (.goto 4, 3) := by decide +kernel
theorem dX11_envyCycleMember_47 : decode cX11_envyCycleMember 47 = .ok (.iconst 0, 1) := by decide +kernel
theorem dX11_envyCycleMember_48 : decode cX11_envyCycleMember 48 = .ok (.iconst 0, 1) := by decide +kernel
theorem dX11_envyCycleMember_49 : decode cX11_envyCycleMember 49 = .ok (.invokevirtual 171, 3) := by decide +kernel
theorem dX11_envyCycleMember_52 : decode cX11_envyCycleMember 52 = .ok (.ifCond .eq 5, 3) := by decide +kernel
theorem dX11_envyCycleMember_55 : decode cX11_envyCycleMember 55 = .ok (.iconst 0, 1) := by decide +kernel
theorem dX11_envyCycleMember_56 : decode cX11_envyCycleMember 56 = .ok (.ireturn, 1) := by decide +kernel
theorem dX11_envyCycleMember_57 : decode cX11_envyCycleMember 57 = .ok (.aload_n 0, 1) := by decide +kernel
theorem dX11_envyCycleMember_58 : decode cX11_envyCycleMember 58 = .ok (.getfield 45, 3) := by decide +kernel
theorem dX11_envyCycleMember_61 : decode cX11_envyCycleMember 61 = .ok (.iload_n 2, 1) := by decide +kernel
theorem dX11_envyCycleMember_62 : decode cX11_envyCycleMember 62 = .ok (.iaload, 1) := by decide +kernel
theorem dX11_envyCycleMember_63 : decode cX11_envyCycleMember 63 = .ok (.ireturn, 1) := by decide +kernel
set_option maxRecDepth 20000 in
theorem ggX11_wouldSwap_X11_areSiblings : GoodIn wsX11_wouldSwap wsX11_areSiblings := goodIn_r _ [5, 6, 7, 8, 4, 9, 10, 11, 12, 13, 39, 40, 41, 42, 43, 44, 45, 46, 47, 48, 49, 50, 51, 52, 53, 54, 55, 56, 57, 58] (by decide +kernel) (by decide +kernel)
set_option maxRecDepth 20000 in
theorem gX11_wouldSwap_X11_areSiblings : GoodIn wsX11_wouldSwap (wsV RX11 276 RX11 yX11_areSiblings wsX11_areSiblings) := goodIn_app (goodIn_of _ (by decide +kernel)) ggX11_wouldSwap_X11_areSiblings
set_option maxRecDepth 20000 in
theorem ggX11_wouldSwap_X11_fails : GoodIn wsX11_wouldSwap wsX11_fails := goodIn_r _ [17, 18, 39, 40, 41, 42, 43, 44, 45, 46, 47, 48, 49, 50, 51, 52, 53, 54, 55, 56, 57, 58] (by decide +kernel) (by decide +kernel)
set_option maxRecDepth 20000 in
theorem gX11_wouldSwap_X11_fails : GoodIn wsX11_wouldSwap (wsV RX11 171 RX11 yX11_fails wsX11_fails) := goodIn_app (goodIn_of _ (by decide +kernel)) ggX11_wouldSwap_X11_fails
set_option maxRecDepth 20000 in
theorem ggX11_wouldSwap_X11_hasEnvy : GoodIn wsX11_wouldSwap wsX11_hasEnvy := goodIn_r _ [22, 23, 24, 25, 4, 26, 10, 27, 28, 29, 30, 31, 32, 33, 34, 35, 36, 37, 38, 39, 40, 41, 42, 43, 44, 45, 46, 47, 48, 49, 50, 51, 52, 53, 54, 55, 56, 57, 58] (by decide +kernel) (by decide +kernel)
set_option maxRecDepth 20000 in
theorem gX11_wouldSwap_X11_hasEnvy : GoodIn wsX11_wouldSwap (wsV RX11 129 RX11 yX11_hasEnvy wsX11_hasEnvy) := goodIn_app (goodIn_of _ (by decide +kernel)) ggX11_wouldSwap_X11_hasEnvy
theorem dX11_wouldSwap_0 : decode cX11_wouldSwap 0 = .ok (.aload_n 0, 1) := by decide +kernel
theorem dX11_wouldSwap_1 : decode cX11_wouldSwap 1 = .ok (.aload_n 0, 1) := by decide +kernel
theorem dX11_wouldSwap_2 : decode cX11_wouldSwap 2 = .ok (.iload_n 1, 1) := by decide +kernel
theorem dX11_wouldSwap_3 : decode cX11_wouldSwap 3 = .ok (.iload_n 2, 1) := by decide +kernel
theorem dX11_wouldSwap_4 : decode cX11_wouldSwap 4 = .ok (.invokevirtual 276, 3) := by decide +kernel
theorem dX11_wouldSwap_7 : decode cX11_wouldSwap 7 = .ok (.ifCond .ne 7, 3) := by decide +kernel
theorem dX11_wouldSwap_10 : decode cX11_wouldSwap 10 = .ok (.iconst 1, 1) := by decide +kernel
theorem dX11_wouldSwap_11 : decode cX11_wouldSwap 11 = .ok (.goto 4, 3) := by decide +kernel
theorem dX11_wouldSwap_14 : decode cX11_wouldSwap 14 = .ok (.iconst 0, 1) := by decide +kernel
theorem dX11_wouldSwap_15 : decode cX11_wouldSwap 15 = .ok (.iconst 0, 1) := by decide +kernel
theorem dX11_wouldSwap_16 : decode cX11_wouldSwap 16 = .ok (.iconst 0, 1) := by decide +kernel
theorem dX11_wouldSwap_17 : decode cX11_wouldSwap 17 = .ok (.invokevirtual 171, 3) := by decide +kernel
theorem dX11_wouldSwap_20 : decode cX11_wouldSwap 20 = .ok (.ifCond .eq 5, 3) := by decide +kernel
theorem dX11_wouldSwap_23 : decode cX11_wouldSwap 23 = .ok (.iconst 0, 1) := by decide +kernel
theorem dX11_wouldSwap_24 : decode cX11_wouldSwap 24 = .ok (.ireturn, 1) := by decide +kernel
theorem dX11_wouldSwap_25 : decode cX11_wouldSwap 25 = .ok (.aload_n 0, 1) := by decide +kernel
theorem dX11_wouldSwap_26 : decode cX11_wouldSwap 26 = .ok (.iload_n 1, 1) := by decide +kernel
theorem dX11_wouldSwap_27 : decode cX11_wouldSwap 27 = .ok (.iload_n 2, 1) := by decide +kernel
theorem dX11_wouldSwap_28 : decode cX11_wouldSwap 28 = .ok (.invokevirtual 129, 3) := by decide +kernel
theorem dX11_wouldSwap_31 : decode cX11_wouldSwap 31 = .ok (.ifCond .eq 16, 3) := by decide +kernel
theorem dX11_wouldSwap_34 : decode cX11_wouldSwap 34 = .ok (.aload_n 0, 1) := by decide +kernel
theorem dX11_wouldSwap_35 : decode cX11_wouldSwap 35 = .ok (.iload_n 2, 1) := by decide +kernel
theorem dX11_wouldSwap_36 : decode cX11_wouldSwap 36 = .ok (.iload_n 1, 1) := by decide +kernel
theorem dX11_wouldSwap_37 : decode cX11_wouldSwap 37 = .ok (.invokevirtual 129, 3) := by decide +kernel
theorem dX11_wouldSwap_40 : decode cX11_wouldSwap 40 = .ok (.ifCond .eq 7, 3) := by decide +kernel
theorem dX11_wouldSwap_43 : decode cX11_wouldSwap 43 = .ok (.iconst 1, 1) := by decide +kernel
theorem dX11_wouldSwap_44 : decode cX11_wouldSwap 44 = .ok (.goto 4, 3) := by decide +kernel
theorem dX11_wouldSwap_47 : decode cX11_wouldSwap 47 = .ok (.iconst 0, 1) := by decide +kernel
theorem dX11_wouldSwap_48 : decode cX11_wouldSwap 48 = .ok (.ireturn, 1) := by decide +kernel
set_option maxRecDepth 20000 in
theorem ggX11_totalWelfare_X11_welfareOf : GoodIn wsX11_totalWelfare wsX11_welfareOf := goodIn_r _ [7, 8, 9, 10, 6, 11, 2, 12, 13, 14, 15, 16, 17, 18, 19, 20, 21, 22, 23, 24, 25, 26, 27, 28, 29, 30, 31, 32, 33, 34, 35, 36, 37, 38, 39] (by decide +kernel) (by decide +kernel)
set_option maxRecDepth 20000 in
theorem gX11_totalWelfare_X11_welfareOf : GoodIn wsX11_totalWelfare (wsV RX11 120 RX11 yX11_welfareOf wsX11_welfareOf) := goodIn_app (goodIn_of _ (by decide +kernel)) ggX11_totalWelfare_X11_welfareOf
theorem dX11_totalWelfare_0 : decode cX11_totalWelfare 0 = .ok (.aload_n 0, 1) := by decide +kernel
theorem dX11_totalWelfare_1 : decode cX11_totalWelfare 1 = .ok (.iconst 0, 1) := by decide +kernel
theorem dX11_totalWelfare_2 : decode cX11_totalWelfare 2 = .ok (.putfield 1, 3) := by decide +kernel
theorem dX11_totalWelfare_5 : decode cX11_totalWelfare 5 = .ok (.iconst 0, 1) := by decide +kernel
theorem dX11_totalWelfare_6 : decode cX11_totalWelfare 6 = .ok (.istore_n 1, 1) := by decide +kernel
theorem dX11_totalWelfare_7 : decode cX11_totalWelfare 7 = .ok (.iconst 0, 1) := by decide +kernel
theorem dX11_totalWelfare_8 : decode cX11_totalWelfare 8 = .ok (.istore_n 2, 1) := by decide +kernel
theorem dX11_totalWelfare_9 : decode cX11_totalWelfare 9 = .ok (.iload_n 2, 1) := by decide +kernel
theorem dX11_totalWelfare_10 : decode cX11_totalWelfare 10 = .ok (.aload_n 0, 1) := by decide +kernel
theorem dX11_totalWelfare_11 : decode cX11_totalWelfare 11 = .ok (.getfield 13, 3) := by decide +kernel
theorem dX11_totalWelfare_14 : decode cX11_totalWelfare 14 = .ok (.iconst 1, 1) := by decide +kernel
theorem dX11_totalWelfare_15 : decode cX11_totalWelfare 15 = .ok (.iaload, 1) := by decide +kernel
theorem dX11_totalWelfare_16 : decode cX11_totalWelfare 16 = .ok (.if_icmp .ge 17, 3) := by decide +kernel
theorem dX11_totalWelfare_19 : decode cX11_totalWelfare 19 = .ok (.iload_n 1, 1) := by decide +kernel
theorem dX11_totalWelfare_20 : decode cX11_totalWelfare 20 = .ok (.aload_n 0, 1) := by decide +kernel
theorem dX11_totalWelfare_21 : decode cX11_totalWelfare 21 = .ok (.iload_n 2, 1) := by decide +kernel
theorem dX11_totalWelfare_22 : decode cX11_totalWelfare 22 = .ok (.invokevirtual 120, 3) := by decide +kernel
theorem dX11_totalWelfare_25 : decode cX11_totalWelfare 25 = .ok (.iadd, 1) := by decide +kernel
theorem dX11_totalWelfare_26 : decode cX11_totalWelfare 26 = .ok (.istore_n 1, 1) := by decide +kernel
theorem dX11_totalWelfare_27 : decode cX11_totalWelfare 27 = .ok (.iinc 2 1, 3) := by decide +kernel
theorem dX11_totalWelfare_30 : decode cX11_totalWelfare 30 = .ok (.goto (-21), 3) := by decide +kernel
theorem dX11_totalWelfare_33 : decode cX11_totalWelfare 33 = .ok (.iload_n 1, 1) := by decide +kernel
theorem dX11_totalWelfare_34 : decode cX11_totalWelfare 34 = .ok (.ireturn, 1) := by decide +kernel
set_option maxRecDepth 20000 in
theorem ggX11_leastWelfare_X11_least : GoodIn wsX11_leastWelfare wsX11_least := goodIn_r _ [5, 6, 7, 8, 9, 4, 10, 11, 12, 13, 14, 15, 16, 17, 18, 19, 20, 21, 22, 28, 29, 30, 31, 32, 33, 34, 35, 36, 37, 38, 39, 40, 41, 42, 43, 44, 45, 46, 47] (by decide +kernel) (by decide +kernel)
set_option maxRecDepth 20000 in
theorem gX11_leastWelfare_X11_least : GoodIn wsX11_leastWelfare (wsV RX11 294 RX11 yX11_least wsX11_least) := goodIn_app (goodIn_of _ (by decide +kernel)) ggX11_leastWelfare_X11_least
set_option maxRecDepth 20000 in
theorem ggX11_leastWelfare_X11_plain : GoodIn wsX11_leastWelfare wsX11_plain := goodIn_r _ [26, 27, 28, 29, 30, 31, 32, 33, 34, 35, 36, 37, 38, 39, 40, 41, 42, 43, 44, 45, 46, 47] (by decide +kernel) (by decide +kernel)
set_option maxRecDepth 20000 in
theorem gX11_leastWelfare_X11_plain : GoodIn wsX11_leastWelfare (wsV RX11 273 RX11 yX11_plain wsX11_plain) := goodIn_app (goodIn_of _ (by decide +kernel)) ggX11_leastWelfare_X11_plain
theorem dX11_leastWelfare_0 : decode cX11_leastWelfare 0 = .ok (.aload_n 0, 1) := by decide +kernel
theorem dX11_leastWelfare_1 : decode cX11_leastWelfare 1 = .ok (.aload_n 0, 1) := by decide +kernel
theorem dX11_leastWelfare_2 : decode cX11_leastWelfare 2 = .ok (.invokevirtual 294, 3) := by decide +kernel
theorem dX11_leastWelfare_5 : decode cX11_leastWelfare 5 = .ok (.invokevirtual 273, 3) := by decide +kernel
theorem dX11_leastWelfare_8 : decode cX11_leastWelfare 8 = .ok (.ireturn, 1) := by decide +kernel
set_option maxRecDepth 20000 in
theorem ggX11_welfareProduct_X11_welfareOf : GoodIn wsX11_welfareProduct wsX11_welfareOf := goodIn_r _ [7, 8, 9, 10, 6, 11, 2, 12, 13, 14, 15, 16, 17, 18, 19, 20, 21, 22, 23, 24, 25, 26, 27, 28, 29, 30, 31, 32, 33, 34, 35, 36, 37, 38, 39] (by decide +kernel) (by decide +kernel)
set_option maxRecDepth 20000 in
theorem gX11_welfareProduct_X11_welfareOf : GoodIn wsX11_welfareProduct (wsV RX11 120 RX11 yX11_welfareOf wsX11_welfareOf) := goodIn_app (goodIn_of _ (by decide +kernel)) ggX11_welfareProduct_X11_welfareOf
theorem dX11_welfareProduct_0 : decode cX11_welfareProduct 0 = .ok (.aload_n 0, 1) := by decide +kernel
theorem dX11_welfareProduct_1 : decode cX11_welfareProduct 1 = .ok (.iconst 0, 1) := by decide +kernel
theorem dX11_welfareProduct_2 : decode cX11_welfareProduct 2 = .ok (.putfield 1, 3) := by decide +kernel
theorem dX11_welfareProduct_5 : decode cX11_welfareProduct 5 = .ok (.lconst 1, 1) := by decide +kernel
theorem dX11_welfareProduct_6 : decode cX11_welfareProduct 6 = .ok (.lstore_n 1, 1) := by decide +kernel
theorem dX11_welfareProduct_7 : decode cX11_welfareProduct 7 = .ok (.iconst 0, 1) := by decide +kernel
theorem dX11_welfareProduct_8 : decode cX11_welfareProduct 8 = .ok (.istore_n 3, 1) := by decide +kernel
theorem dX11_welfareProduct_9 : decode cX11_welfareProduct 9 = .ok (.iload_n 3, 1) := by decide +kernel
theorem dX11_welfareProduct_10 : decode cX11_welfareProduct 10 = .ok (.aload_n 0, 1) := by decide +kernel
theorem dX11_welfareProduct_11 : decode cX11_welfareProduct 11 = .ok (.getfield 13, 3) := by decide +kernel
theorem dX11_welfareProduct_14 : decode cX11_welfareProduct 14 = .ok (.iconst 1, 1) := by decide +kernel
theorem dX11_welfareProduct_15 : decode cX11_welfareProduct 15 = .ok (.iaload, 1) := by decide +kernel
theorem dX11_welfareProduct_16 : decode cX11_welfareProduct 16 = .ok (.if_icmp .ge 18, 3) := by decide +kernel
theorem dX11_welfareProduct_19 : decode cX11_welfareProduct 19 = .ok (.lload_n 1, 1) := by decide +kernel
theorem dX11_welfareProduct_20 : decode cX11_welfareProduct 20 = .ok (.aload_n 0, 1) := by decide +kernel
theorem dX11_welfareProduct_21 : decode cX11_welfareProduct 21 = .ok (.iload_n 3, 1) := by decide +kernel
theorem dX11_welfareProduct_22 : decode cX11_welfareProduct 22 = .ok (.invokevirtual 120, 3) := by decide +kernel
theorem dX11_welfareProduct_25 : decode cX11_welfareProduct 25 = .ok (.i2l, 1) := by decide +kernel
theorem dX11_welfareProduct_26 : decode cX11_welfareProduct 26 = .ok (.lmul, 1) := by decide +kernel
theorem dX11_welfareProduct_27 : decode cX11_welfareProduct 27 = .ok (.lstore_n 1, 1) := by decide +kernel
theorem dX11_welfareProduct_28 : decode cX11_welfareProduct 28 = .ok (.iinc 3 1, 3) := by decide +kernel
theorem dX11_welfareProduct_31 : decode cX11_welfareProduct 31 = .ok (.goto (-22), 3) := by decide +kernel
theorem dX11_welfareProduct_34 : decode cX11_welfareProduct 34 = .ok (.lload_n 1, 1) := by decide +kernel
theorem dX11_welfareProduct_35 : decode cX11_welfareProduct 35 = .ok (.lreturn, 1) := by decide +kernel
set_option maxRecDepth 20000 in
theorem ggX11_greatestTotalWelfare_X11_valueOf : GoodIn wsX11_greatestTotalWelfare wsX11_valueOf := goodIn_r _ [7, 2, 8, 9, 10, 11, 12, 13, 14, 15, 16, 17, 18, 19, 20, 21, 22, 23, 24, 25, 26, 27] (by decide +kernel) (by decide +kernel)
set_option maxRecDepth 20000 in
theorem gX11_greatestTotalWelfare_X11_valueOf : GoodIn wsX11_greatestTotalWelfare (wsV RX11 105 RX11 yX11_valueOf wsX11_valueOf) := goodIn_app (goodIn_of _ (by decide +kernel)) ggX11_greatestTotalWelfare_X11_valueOf
theorem dX11_greatestTotalWelfare_0 : decode cX11_greatestTotalWelfare 0 = .ok (.aload_n 0, 1) := by decide +kernel
theorem dX11_greatestTotalWelfare_1 : decode cX11_greatestTotalWelfare 1 = .ok (.iconst 0, 1) := by decide +kernel
theorem dX11_greatestTotalWelfare_2 : decode cX11_greatestTotalWelfare 2 = .ok (.putfield 1, 3) := by decide +kernel
theorem dX11_greatestTotalWelfare_5 : decode cX11_greatestTotalWelfare 5 = .ok (.iconst 0, 1) := by decide +kernel
theorem dX11_greatestTotalWelfare_6 : decode cX11_greatestTotalWelfare 6 = .ok (.istore_n 1, 1) := by decide +kernel
theorem dX11_greatestTotalWelfare_7 : decode cX11_greatestTotalWelfare 7 = .ok (.iconst 0, 1) := by decide +kernel
theorem dX11_greatestTotalWelfare_8 : decode cX11_greatestTotalWelfare 8 = .ok (.istore_n 2, 1) := by decide +kernel
theorem dX11_greatestTotalWelfare_9 : decode cX11_greatestTotalWelfare 9 = .ok (.iload_n 2, 1) := by decide +kernel
theorem dX11_greatestTotalWelfare_10 : decode cX11_greatestTotalWelfare 10 = .ok (.aload_n 0, 1) := by decide +kernel
theorem dX11_greatestTotalWelfare_11 : decode cX11_greatestTotalWelfare 11 = .ok (.getfield 13, 3) := by decide +kernel
theorem dX11_greatestTotalWelfare_14 : decode cX11_greatestTotalWelfare 14 = .ok (.iconst 0, 1) := by decide +kernel
theorem dX11_greatestTotalWelfare_15 : decode cX11_greatestTotalWelfare 15 = .ok (.iaload, 1) := by decide +kernel
theorem dX11_greatestTotalWelfare_16 : decode cX11_greatestTotalWelfare 16 = .ok (.if_icmp .ge 58, 3) := by decide +kernel
theorem dX11_greatestTotalWelfare_19 : decode cX11_greatestTotalWelfare 19 = .ok (.iconst 0, 1) := by decide +kernel
theorem dX11_greatestTotalWelfare_20 : decode cX11_greatestTotalWelfare 20 = .ok (.istore_n 3, 1) := by decide +kernel
theorem dX11_greatestTotalWelfare_21 : decode cX11_greatestTotalWelfare 21 = .ok (.iconst 0, 1) := by decide +kernel
theorem dX11_greatestTotalWelfare_22 : decode cX11_greatestTotalWelfare 22 = .ok (.istore 4, 2) := by decide +kernel
theorem dX11_greatestTotalWelfare_24 : decode cX11_greatestTotalWelfare 24 = .ok (.iload 4, 2) := by decide +kernel
theorem dX11_greatestTotalWelfare_26 : decode cX11_greatestTotalWelfare 26 = .ok (.aload_n 0, 1) := by decide +kernel
theorem dX11_greatestTotalWelfare_27 : decode cX11_greatestTotalWelfare 27 = .ok (.getfield 13, 3) := by decide +kernel
theorem dX11_greatestTotalWelfare_30 : decode cX11_greatestTotalWelfare 30 = .ok (.iconst 1, 1) := by decide +kernel
theorem dX11_greatestTotalWelfare_31 : decode cX11_greatestTotalWelfare 31 = .ok (.iaload, 1) := by decide +kernel
theorem dX11_greatestTotalWelfare_32 : decode cX11_greatestTotalWelfare 32 = .ok (.if_icmp .ge 32, 3) := by decide +kernel
theorem dX11_greatestTotalWelfare_35 : decode cX11_greatestTotalWelfare 35 = .ok (.aload_n 0, 1) := by decide +kernel
theorem dX11_greatestTotalWelfare_36 : decode cX11_greatestTotalWelfare 36 = .ok (.iload 4, 2) := by decide +kernel
theorem dX11_greatestTotalWelfare_38 : decode cX11_greatestTotalWelfare 38 = .ok (.iload_n 2, 1) := by decide +kernel
theorem dX11_greatestTotalWelfare_39 : decode cX11_greatestTotalWelfare 39 = .ok (.invokevirtual 105, 3) := by decide +kernel
theorem dX11_greatestTotalWelfare_42 : decode cX11_greatestTotalWelfare 42 = .ok (.iload_n 3, 1) := by decide +kernel
theorem dX11_greatestTotalWelfare_43 : decode cX11_greatestTotalWelfare 43 = .ok (.if_icmp .le 13, 3) := by decide +kernel
theorem dX11_greatestTotalWelfare_46 : decode cX11_greatestTotalWelfare 46 = .ok (.aload_n 0, 1) := by decide +kernel
theorem dX11_greatestTotalWelfare_47 : decode cX11_greatestTotalWelfare 47 = .ok (.iload 4, 2) := by decide +kernel
theorem dX11_greatestTotalWelfare_49 : decode cX11_greatestTotalWelfare 49 = .ok (.iload_n 2, 1) := by decide +kernel
theorem dX11_greatestTotalWelfare_50 : decode cX11_greatestTotalWelfare 50 = .ok (.invokevirtual 105, 3) := by decide +kernel
theorem dX11_greatestTotalWelfare_53 : decode cX11_greatestTotalWelfare 53 = .ok (.goto 4, 3) := by decide +kernel
theorem dX11_greatestTotalWelfare_56 : decode cX11_greatestTotalWelfare 56 = .ok (.iload_n 3, 1) := by decide +kernel
theorem dX11_greatestTotalWelfare_57 : decode cX11_greatestTotalWelfare 57 = .ok (.istore_n 3, 1) := by decide +kernel
theorem dX11_greatestTotalWelfare_58 : decode cX11_greatestTotalWelfare 58 = .ok (.iinc 4 1, 3) := by decide +kernel
theorem dX11_greatestTotalWelfare_61 : decode cX11_greatestTotalWelfare 61 = .ok (.goto (-37), 3) := by decide +kernel
theorem dX11_greatestTotalWelfare_64 : decode cX11_greatestTotalWelfare 64 = .ok (.iload_n 1, 1) := by decide +kernel
theorem dX11_greatestTotalWelfare_65 : decode cX11_greatestTotalWelfare 65 = .ok (.iload_n 3, 1) := by decide +kernel
theorem dX11_greatestTotalWelfare_66 : decode cX11_greatestTotalWelfare 66 = .ok (.iadd, 1) := by decide +kernel
theorem dX11_greatestTotalWelfare_67 : decode cX11_greatestTotalWelfare 67 = .ok (.istore_n 1, 1) := by decide +kernel
theorem dX11_greatestTotalWelfare_68 : decode cX11_greatestTotalWelfare 68 = .ok (.iinc 2 1, 3) := by decide +kernel
theorem dX11_greatestTotalWelfare_71 : decode cX11_greatestTotalWelfare 71 = .ok (.goto (-62), 3) := by decide +kernel
theorem dX11_greatestTotalWelfare_74 : decode cX11_greatestTotalWelfare 74 = .ok (.iload_n 1, 1) := by decide +kernel
theorem dX11_greatestTotalWelfare_75 : decode cX11_greatestTotalWelfare 75 = .ok (.ireturn, 1) := by decide +kernel
set_option maxRecDepth 20000 in
theorem ggX11_greatestContiguousWelfare_X11_contiguousWelfare : GoodIn wsX11_greatestContiguousWelfare wsX11_contiguousWelfare := goodIn_r _ [5, 6, 7, 8, 9, 10, 4, 11, 12, 13, 14, 15, 21, 22, 23, 24, 25, 26, 27, 28, 29, 30, 31, 32, 33, 34, 35, 36, 37, 38, 39, 40] (by decide +kernel) (by decide +kernel)
set_option maxRecDepth 20000 in
theorem gX11_greatestContiguousWelfare_X11_contiguousWelfare : GoodIn wsX11_greatestContiguousWelfare (wsV RX11 297 RX11 yX11_contiguousWelfare wsX11_contiguousWelfare) := goodIn_app (goodIn_of _ (by decide +kernel)) ggX11_greatestContiguousWelfare_X11_contiguousWelfare
set_option maxRecDepth 20000 in
theorem ggX11_greatestContiguousWelfare_X11_plain : GoodIn wsX11_greatestContiguousWelfare wsX11_plain := goodIn_r _ [19, 20, 21, 22, 23, 24, 25, 26, 27, 28, 29, 30, 31, 32, 33, 34, 35, 36, 37, 38, 39, 40] (by decide +kernel) (by decide +kernel)
set_option maxRecDepth 20000 in
theorem gX11_greatestContiguousWelfare_X11_plain : GoodIn wsX11_greatestContiguousWelfare (wsV RX11 273 RX11 yX11_plain wsX11_plain) := goodIn_app (goodIn_of _ (by decide +kernel)) ggX11_greatestContiguousWelfare_X11_plain
theorem dX11_greatestContiguousWelfare_0 : decode cX11_greatestContiguousWelfare 0 = .ok (.aload_n 0, 1) := by decide +kernel
theorem dX11_greatestContiguousWelfare_1 : decode cX11_greatestContiguousWelfare 1 = .ok (.aload_n 0, 1) := by decide +kernel
theorem dX11_greatestContiguousWelfare_2 : decode cX11_greatestContiguousWelfare 2 = .ok (.invokevirtual 297, 3) := by decide +kernel
theorem dX11_greatestContiguousWelfare_5 : decode cX11_greatestContiguousWelfare 5 = .ok (.invokevirtual 273, 3) := by decide +kernel
theorem dX11_greatestContiguousWelfare_8 : decode cX11_greatestContiguousWelfare 8 = .ok (.ireturn, 1) := by decide +kernel
set_option maxRecDepth 20000 in
theorem ggX11_bestLeastWelfare_X11_contiguousLeast : GoodIn wsX11_bestLeastWelfare wsX11_contiguousLeast := goodIn_r _ [5, 6, 7, 8, 9, 10, 4, 11, 12, 13, 14, 15, 16, 17, 18, 19, 20, 21, 22, 23, 29, 30, 31, 32, 33, 34, 35, 36, 37, 38, 39, 40, 41, 42, 43, 44, 45, 46, 47, 48] (by decide +kernel) (by decide +kernel)
set_option maxRecDepth 20000 in
theorem gX11_bestLeastWelfare_X11_contiguousLeast : GoodIn wsX11_bestLeastWelfare (wsV RX11 300 RX11 yX11_contiguousLeast wsX11_contiguousLeast) := goodIn_app (goodIn_of _ (by decide +kernel)) ggX11_bestLeastWelfare_X11_contiguousLeast
set_option maxRecDepth 20000 in
theorem ggX11_bestLeastWelfare_X11_plain : GoodIn wsX11_bestLeastWelfare wsX11_plain := goodIn_r _ [27, 28, 29, 30, 31, 32, 33, 34, 35, 36, 37, 38, 39, 40, 41, 42, 43, 44, 45, 46, 47, 48] (by decide +kernel) (by decide +kernel)
set_option maxRecDepth 20000 in
theorem gX11_bestLeastWelfare_X11_plain : GoodIn wsX11_bestLeastWelfare (wsV RX11 273 RX11 yX11_plain wsX11_plain) := goodIn_app (goodIn_of _ (by decide +kernel)) ggX11_bestLeastWelfare_X11_plain
theorem dX11_bestLeastWelfare_0 : decode cX11_bestLeastWelfare 0 = .ok (.aload_n 0, 1) := by decide +kernel
theorem dX11_bestLeastWelfare_1 : decode cX11_bestLeastWelfare 1 = .ok (.aload_n 0, 1) := by decide +kernel
theorem dX11_bestLeastWelfare_2 : decode cX11_bestLeastWelfare 2 = .ok (.invokevirtual 300, 3) := by decide +kernel
theorem dX11_bestLeastWelfare_5 : decode cX11_bestLeastWelfare 5 = .ok (.invokevirtual 273, 3) := by decide +kernel
theorem dX11_bestLeastWelfare_8 : decode cX11_bestLeastWelfare 8 = .ok (.ireturn, 1) := by decide +kernel
set_option maxRecDepth 20000 in
theorem ggX11_cutCount_X11_ownerOf : GoodIn wsX11_cutCount wsX11_ownerOf := goodIn_r _ [7, 2, 8, 9, 10, 11, 12, 13, 14, 15, 16, 17, 18, 19, 20, 21, 22, 23, 24, 25, 26, 27] (by decide +kernel) (by decide +kernel)
set_option maxRecDepth 20000 in
theorem gX11_cutCount_X11_ownerOf : GoodIn wsX11_cutCount (wsV RX11 113 RX11 yX11_ownerOf wsX11_ownerOf) := goodIn_app (goodIn_of _ (by decide +kernel)) ggX11_cutCount_X11_ownerOf
theorem dX11_cutCount_0 : decode cX11_cutCount 0 = .ok (.aload_n 0, 1) := by decide +kernel
theorem dX11_cutCount_1 : decode cX11_cutCount 1 = .ok (.iconst 0, 1) := by decide +kernel
theorem dX11_cutCount_2 : decode cX11_cutCount 2 = .ok (.putfield 1, 3) := by decide +kernel
theorem dX11_cutCount_5 : decode cX11_cutCount 5 = .ok (.iconst 0, 1) := by decide +kernel
theorem dX11_cutCount_6 : decode cX11_cutCount 6 = .ok (.istore_n 1, 1) := by decide +kernel
theorem dX11_cutCount_7 : decode cX11_cutCount 7 = .ok (.iconst 1, 1) := by decide +kernel
theorem dX11_cutCount_8 : decode cX11_cutCount 8 = .ok (.istore_n 2, 1) := by decide +kernel
theorem dX11_cutCount_9 : decode cX11_cutCount 9 = .ok (.iload_n 2, 1) := by decide +kernel
theorem dX11_cutCount_10 : decode cX11_cutCount 10 = .ok (.aload_n 0, 1) := by decide +kernel
theorem dX11_cutCount_11 : decode cX11_cutCount 11 = .ok (.getfield 13, 3) := by decide +kernel
theorem dX11_cutCount_14 : decode cX11_cutCount 14 = .ok (.iconst 0, 1) := by decide +kernel
theorem dX11_cutCount_15 : decode cX11_cutCount 15 = .ok (.iaload, 1) := by decide +kernel
theorem dX11_cutCount_16 : decode cX11_cutCount 16 = .ok (.if_icmp .ge 32, 3) := by decide +kernel
theorem dX11_cutCount_19 : decode cX11_cutCount 19 = .ok (.iload_n 1, 1) := by decide +kernel
theorem dX11_cutCount_20 : decode cX11_cutCount 20 = .ok (.aload_n 0, 1) := by decide +kernel
theorem dX11_cutCount_21 : decode cX11_cutCount 21 = .ok (.iload_n 2, 1) := by decide +kernel
theorem dX11_cutCount_22 : decode cX11_cutCount 22 = .ok (.invokevirtual 113, 3) := by decide +kernel
theorem dX11_cutCount_25 : decode cX11_cutCount 25 = .ok (.aload_n 0, 1) := by decide +kernel
theorem dX11_cutCount_26 : decode cX11_cutCount 26 = .ok (.iload_n 2, 1) := by decide +kernel
theorem dX11_cutCount_27 : decode cX11_cutCount 27 = .ok (.iconst 1, 1) := by decide +kernel
theorem dX11_cutCount_28 : decode cX11_cutCount 28 = .ok (.isub, 1) := by decide +kernel
theorem dX11_cutCount_29 : decode cX11_cutCount 29 = .ok (.invokevirtual 113, 3) := by decide +kernel
theorem dX11_cutCount_32 : decode cX11_cutCount 32 = .ok (.if_icmp .eq 7, 3) := by decide +kernel
theorem dX11_cutCount_35 : decode cX11_cutCount 35 = .ok (.iconst 1, 1) := by decide +kernel
theorem dX11_cutCount_36 : decode cX11_cutCount 36 = .ok (.goto 4, 3) := by decide +kernel
theorem dX11_cutCount_39 : decode cX11_cutCount 39 = .ok (.iconst 0, 1) := by decide +kernel
theorem dX11_cutCount_40 : decode cX11_cutCount 40 = .ok (.iadd, 1) := by decide +kernel
theorem dX11_cutCount_41 : decode cX11_cutCount 41 = .ok (.istore_n 1, 1) := by decide +kernel
theorem dX11_cutCount_42 : decode cX11_cutCount 42 = .ok (.iinc 2 1, 3) := by decide +kernel
theorem dX11_cutCount_45 : decode cX11_cutCount 45 = .ok (.goto (-36), 3) := by decide +kernel
theorem dX11_cutCount_48 : decode cX11_cutCount 48 = .ok (.iload_n 1, 1) := by decide +kernel
theorem dX11_cutCount_49 : decode cX11_cutCount 49 = .ok (.ireturn, 1) := by decide +kernel
set_option maxRecDepth 20000 in
theorem ggX11_satisfaction_X11_isSibling : GoodIn wsX11_satisfaction wsX11_isSibling := goodIn_r _ [5, 6, 7, 8, 4, 9, 39, 40, 41, 42, 43, 44, 45, 46, 47, 48, 49, 50, 51, 52, 53, 54, 55, 56, 57, 58] (by decide +kernel) (by decide +kernel)
set_option maxRecDepth 20000 in
theorem gX11_satisfaction_X11_isSibling : GoodIn wsX11_satisfaction (wsV RX11 94 RX11 yX11_isSibling wsX11_isSibling) := goodIn_app (goodIn_of _ (by decide +kernel)) ggX11_satisfaction_X11_isSibling
set_option maxRecDepth 20000 in
theorem ggX11_satisfaction_X11_fails : GoodIn wsX11_satisfaction wsX11_fails := goodIn_r _ [13, 14, 39, 40, 41, 42, 43, 44, 45, 46, 47, 48, 49, 50, 51, 52, 53, 54, 55, 56, 57, 58] (by decide +kernel) (by decide +kernel)
set_option maxRecDepth 20000 in
theorem gX11_satisfaction_X11_fails : GoodIn wsX11_satisfaction (wsV RX11 171 RX11 yX11_fails wsX11_fails) := goodIn_app (goodIn_of _ (by decide +kernel)) ggX11_satisfaction_X11_fails
set_option maxRecDepth 20000 in
theorem ggX11_satisfaction_X11_totalOf : GoodIn wsX11_satisfaction wsX11_totalOf := goodIn_r _ [18, 6, 19, 20, 21, 4, 22, 23, 24, 25, 26, 39, 40, 41, 42, 43, 44, 45, 46, 47, 48, 49, 50, 51, 52, 53, 54, 55, 56, 57, 58] (by decide +kernel) (by decide +kernel)
set_option maxRecDepth 20000 in
theorem gX11_satisfaction_X11_totalOf : GoodIn wsX11_satisfaction (wsV RX11 123 RX11 yX11_totalOf wsX11_totalOf) := goodIn_app (goodIn_of _ (by decide +kernel)) ggX11_satisfaction_X11_totalOf
set_option maxRecDepth 20000 in
theorem ggX11_satisfaction_X11_welfareOf : GoodIn wsX11_satisfaction wsX11_welfareOf := goodIn_r _ [30, 31, 32, 33, 4, 34, 6, 35, 36, 37, 38, 23, 24, 25, 26, 39, 40, 41, 42, 43, 44, 45, 46, 47, 48, 49, 50, 51, 52, 53, 54, 55, 56, 57, 58] (by decide +kernel) (by decide +kernel)
set_option maxRecDepth 20000 in
theorem gX11_satisfaction_X11_welfareOf : GoodIn wsX11_satisfaction (wsV RX11 120 RX11 yX11_welfareOf wsX11_welfareOf) := goodIn_app (goodIn_of _ (by decide +kernel)) ggX11_satisfaction_X11_welfareOf
theorem dX11_satisfaction_0 : decode cX11_satisfaction 0 = .ok (.aload_n 0, 1) := by decide +kernel
theorem dX11_satisfaction_1 : decode cX11_satisfaction 1 = .ok (.aload_n 0, 1) := by decide +kernel
theorem dX11_satisfaction_2 : decode cX11_satisfaction 2 = .ok (.iload_n 1, 1) := by decide +kernel
theorem dX11_satisfaction_3 : decode cX11_satisfaction 3 = .ok (.invokevirtual 94, 3) := by decide +kernel
theorem dX11_satisfaction_6 : decode cX11_satisfaction 6 = .ok (.ifCond .ne 7, 3) := by decide +kernel
theorem dX11_satisfaction_9 : decode cX11_satisfaction 9 = .ok (.iconst 1, 1) := by decide +kernel
theorem dX11_satisfaction_10 : decode cX11_satisfaction 10 = .ok (.goto 4, 3) := by decide +kernel
theorem dX11_satisfaction_13 : decode cX11_satisfaction 13 = .ok (.iconst 0, 1) := by decide +kernel
theorem dX11_satisfaction_14 : decode cX11_satisfaction 14 = .ok (.iconst 0, 1) := by decide +kernel
theorem dX11_satisfaction_15 : decode cX11_satisfaction 15 = .ok (.iconst 0, 1) := by decide +kernel
theorem dX11_satisfaction_16 : decode cX11_satisfaction 16 = .ok (.invokevirtual 171, 3) := by decide +kernel
theorem dX11_satisfaction_19 : decode cX11_satisfaction 19 = .ok (.ifCond .eq 5, 3) := by decide +kernel
theorem dX11_satisfaction_22 : decode cX11_satisfaction 22 = .ok (.fconst 0, 1) := by decide +kernel
theorem dX11_satisfaction_23 : decode cX11_satisfaction 23 = .ok (.freturn, 1) := by decide +kernel
theorem dX11_satisfaction_24 : decode cX11_satisfaction 24 = .ok (.aload_n 0, 1) := by decide +kernel
theorem dX11_satisfaction_25 : decode cX11_satisfaction 25 = .ok (.iload_n 1, 1) := by decide +kernel
theorem dX11_satisfaction_26 : decode cX11_satisfaction 26 = .ok (.invokevirtual 123, 3) := by decide +kernel
theorem dX11_satisfaction_29 : decode cX11_satisfaction 29 = .ok (.ifCond .ne 7, 3) := by decide +kernel
theorem dX11_satisfaction_32 : decode cX11_satisfaction 32 = .ok (.fconst 0, 1) := by decide +kernel
theorem dX11_satisfaction_33 : decode cX11_satisfaction 33 = .ok (.goto 16, 3) := by decide +kernel
theorem dX11_satisfaction_36 : decode cX11_satisfaction 36 = .ok (.aload_n 0, 1) := by decide +kernel
theorem dX11_satisfaction_37 : decode cX11_satisfaction 37 = .ok (.iload_n 1, 1) := by decide +kernel
theorem dX11_satisfaction_38 : decode cX11_satisfaction 38 = .ok (.invokevirtual 120, 3) := by decide +kernel
theorem dX11_satisfaction_41 : decode cX11_satisfaction 41 = .ok (.i2f, 1) := by decide +kernel
theorem dX11_satisfaction_42 : decode cX11_satisfaction 42 = .ok (.aload_n 0, 1) := by decide +kernel
theorem dX11_satisfaction_43 : decode cX11_satisfaction 43 = .ok (.iload_n 1, 1) := by decide +kernel
theorem dX11_satisfaction_44 : decode cX11_satisfaction 44 = .ok (.invokevirtual 123, 3) := by decide +kernel
theorem dX11_satisfaction_47 : decode cX11_satisfaction 47 = .ok (.i2f, 1) := by decide +kernel
theorem dX11_satisfaction_48 : decode cX11_satisfaction 48 = .ok (.fdiv, 1) := by decide +kernel
theorem dX11_satisfaction_49 : decode cX11_satisfaction 49 = .ok (.freturn, 1) := by decide +kernel
set_option maxRecDepth 20000 in
theorem ggX11_meanPieces_X11_pieces : GoodIn wsX11_meanPieces wsX11_pieces := goodIn_r _ [7, 2, 8, 9, 10, 6, 11, 12, 13, 14, 15, 16, 17, 18, 19, 20, 21, 22, 23, 24, 25, 26, 27, 28, 29, 30, 31] (by decide +kernel) (by decide +kernel)
set_option maxRecDepth 20000 in
theorem gX11_meanPieces_X11_pieces : GoodIn wsX11_meanPieces (wsV RX11 282 RX11 yX11_pieces wsX11_pieces) := goodIn_app (goodIn_of _ (by decide +kernel)) ggX11_meanPieces_X11_pieces
theorem dX11_meanPieces_0 : decode cX11_meanPieces 0 = .ok (.aload_n 0, 1) := by decide +kernel
theorem dX11_meanPieces_1 : decode cX11_meanPieces 1 = .ok (.iconst 0, 1) := by decide +kernel
theorem dX11_meanPieces_2 : decode cX11_meanPieces 2 = .ok (.putfield 1, 3) := by decide +kernel
theorem dX11_meanPieces_5 : decode cX11_meanPieces 5 = .ok (.iconst 0, 1) := by decide +kernel
theorem dX11_meanPieces_6 : decode cX11_meanPieces 6 = .ok (.istore_n 1, 1) := by decide +kernel
theorem dX11_meanPieces_7 : decode cX11_meanPieces 7 = .ok (.iconst 0, 1) := by decide +kernel
theorem dX11_meanPieces_8 : decode cX11_meanPieces 8 = .ok (.istore_n 2, 1) := by decide +kernel
theorem dX11_meanPieces_9 : decode cX11_meanPieces 9 = .ok (.iload_n 2, 1) := by decide +kernel
theorem dX11_meanPieces_10 : decode cX11_meanPieces 10 = .ok (.aload_n 0, 1) := by decide +kernel
theorem dX11_meanPieces_11 : decode cX11_meanPieces 11 = .ok (.getfield 13, 3) := by decide +kernel
theorem dX11_meanPieces_14 : decode cX11_meanPieces 14 = .ok (.iconst 1, 1) := by decide +kernel
theorem dX11_meanPieces_15 : decode cX11_meanPieces 15 = .ok (.iaload, 1) := by decide +kernel
theorem dX11_meanPieces_16 : decode cX11_meanPieces 16 = .ok (.if_icmp .ge 17, 3) := by decide +kernel
theorem dX11_meanPieces_19 : decode cX11_meanPieces 19 = .ok (.iload_n 1, 1) := by decide +kernel
theorem dX11_meanPieces_20 : decode cX11_meanPieces 20 = .ok (.aload_n 0, 1) := by decide +kernel
theorem dX11_meanPieces_21 : decode cX11_meanPieces 21 = .ok (.iload_n 2, 1) := by decide +kernel
theorem dX11_meanPieces_22 : decode cX11_meanPieces 22 = .ok (.invokevirtual 282, 3) := by decide +kernel
theorem dX11_meanPieces_25 : decode cX11_meanPieces 25 = .ok (.iadd, 1) := by decide +kernel
theorem dX11_meanPieces_26 : decode cX11_meanPieces 26 = .ok (.istore_n 1, 1) := by decide +kernel
theorem dX11_meanPieces_27 : decode cX11_meanPieces 27 = .ok (.iinc 2 1, 3) := by decide +kernel
theorem dX11_meanPieces_30 : decode cX11_meanPieces 30 = .ok (.goto (-21), 3) := by decide +kernel
theorem dX11_meanPieces_33 : decode cX11_meanPieces 33 = .ok (.iload_n 1, 1) := by decide +kernel
theorem dX11_meanPieces_34 : decode cX11_meanPieces 34 = .ok (.i2d, 1) := by decide +kernel
theorem dX11_meanPieces_35 : decode cX11_meanPieces 35 = .ok (.aload_n 0, 1) := by decide +kernel
theorem dX11_meanPieces_36 : decode cX11_meanPieces 36 = .ok (.getfield 13, 3) := by decide +kernel
theorem dX11_meanPieces_39 : decode cX11_meanPieces 39 = .ok (.iconst 1, 1) := by decide +kernel
theorem dX11_meanPieces_40 : decode cX11_meanPieces 40 = .ok (.iaload, 1) := by decide +kernel
theorem dX11_meanPieces_41 : decode cX11_meanPieces 41 = .ok (.i2d, 1) := by decide +kernel
theorem dX11_meanPieces_42 : decode cX11_meanPieces 42 = .ok (.ddiv, 1) := by decide +kernel
theorem dX11_meanPieces_43 : decode cX11_meanPieces 43 = .ok (.dreturn, 1) := by decide +kernel
set_option maxRecDepth 20000 in
theorem ggX11_inconsistencies_X11_sizeOf : GoodIn wsX11_inconsistencies wsX11_sizeOf := goodIn_r _ [7, 2, 8, 9, 10, 6, 11, 28, 29, 30, 31, 32, 33, 34, 35, 36, 37, 38, 39, 40, 41, 42, 43, 44, 45, 46, 47] (by decide +kernel) (by decide +kernel)
set_option maxRecDepth 20000 in
theorem gX11_inconsistencies_X11_sizeOf : GoodIn wsX11_inconsistencies (wsV RX11 279 RX11 yX11_sizeOf wsX11_sizeOf) := goodIn_app (goodIn_of _ (by decide +kernel)) ggX11_inconsistencies_X11_sizeOf
set_option maxRecDepth 20000 in
theorem ggX11_inconsistencies_X11_hasEnvy : GoodIn wsX11_inconsistencies wsX11_hasEnvy := goodIn_r _ [15, 16, 17, 18, 6, 19, 2, 8, 9, 10, 11, 20, 21, 22, 23, 24, 25, 26, 27, 28, 29, 30, 31, 32, 33, 34, 35, 36, 37, 38, 39, 40, 41, 42, 43, 44, 45, 46, 47] (by decide +kernel) (by decide +kernel)
set_option maxRecDepth 20000 in
theorem gX11_inconsistencies_X11_hasEnvy : GoodIn wsX11_inconsistencies (wsV RX11 129 RX11 yX11_hasEnvy wsX11_hasEnvy) := goodIn_app (goodIn_of _ (by decide +kernel)) ggX11_inconsistencies_X11_hasEnvy
theorem dX11_inconsistencies_0 : decode cX11_inconsistencies 0 = .ok (.aload_n 0, 1) := by decide +kernel
theorem dX11_inconsistencies_1 : decode cX11_inconsistencies 1 = .ok (.iconst 0, 1) := by decide +kernel
theorem dX11_inconsistencies_2 : decode cX11_inconsistencies 2 = .ok (.putfield 1, 3) := by decide +kernel
theorem dX11_inconsistencies_5 : decode cX11_inconsistencies 5 = .ok (.aload_n 0, 1) := by decide +kernel
theorem dX11_inconsistencies_6 : decode cX11_inconsistencies 6 = .ok (.getfield 13, 3) := by decide +kernel
theorem dX11_inconsistencies_9 : decode cX11_inconsistencies 9 = .ok (.iconst 0, 1) := by decide +kernel
theorem dX11_inconsistencies_10 : decode cX11_inconsistencies 10 = .ok (.iaload, 1) := by decide +kernel
theorem dX11_inconsistencies_11 : decode cX11_inconsistencies 11 = .ok (.aload_n 0, 1) := by decide +kernel
theorem dX11_inconsistencies_12 : decode cX11_inconsistencies 12 = .ok (.iconst (-1), 1) := by decide +kernel
theorem dX11_inconsistencies_13 : decode cX11_inconsistencies 13 = .ok (.invokevirtual 279, 3) := by decide +kernel
theorem dX11_inconsistencies_16 : decode cX11_inconsistencies 16 = .ok (.isub, 1) := by decide +kernel
theorem dX11_inconsistencies_17 : decode cX11_inconsistencies 17 = .ok (.istore_n 1, 1) := by decide +kernel
theorem dX11_inconsistencies_18 : decode cX11_inconsistencies 18 = .ok (.iconst 0, 1) := by decide +kernel
theorem dX11_inconsistencies_19 : decode cX11_inconsistencies 19 = .ok (.istore_n 2, 1) := by decide +kernel
theorem dX11_inconsistencies_20 : decode cX11_inconsistencies 20 = .ok (.iload_n 2, 1) := by decide +kernel
theorem dX11_inconsistencies_21 : decode cX11_inconsistencies 21 = .ok (.aload_n 0, 1) := by decide +kernel
theorem dX11_inconsistencies_22 : decode cX11_inconsistencies 22 = .ok (.getfield 13, 3) := by decide +kernel
theorem dX11_inconsistencies_25 : decode cX11_inconsistencies 25 = .ok (.iconst 1, 1) := by decide +kernel
theorem dX11_inconsistencies_26 : decode cX11_inconsistencies 26 = .ok (.iaload, 1) := by decide +kernel
theorem dX11_inconsistencies_27 : decode cX11_inconsistencies 27 = .ok (.if_icmp .ge 32, 3) := by decide +kernel
theorem dX11_inconsistencies_30 : decode cX11_inconsistencies 30 = .ok (.iload_n 1, 1) := by decide +kernel
theorem dX11_inconsistencies_31 : decode cX11_inconsistencies 31 = .ok (.aload_n 0, 1) := by decide +kernel
theorem dX11_inconsistencies_32 : decode cX11_inconsistencies 32 = .ok (.iload_n 2, 1) := by decide +kernel
theorem dX11_inconsistencies_33 : decode cX11_inconsistencies 33 = .ok (.iload_n 2, 1) := by decide +kernel
theorem dX11_inconsistencies_34 : decode cX11_inconsistencies 34 = .ok (.invokevirtual 129, 3) := by decide +kernel
theorem dX11_inconsistencies_37 : decode cX11_inconsistencies 37 = .ok (.ifCond .eq 7, 3) := by decide +kernel
theorem dX11_inconsistencies_40 : decode cX11_inconsistencies 40 = .ok (.iconst 1, 1) := by decide +kernel
theorem dX11_inconsistencies_41 : decode cX11_inconsistencies 41 = .ok (.goto 4, 3) := by decide +kernel
theorem dX11_inconsistencies_44 : decode cX11_inconsistencies 44 = .ok (.iconst 0, 1) := by decide +kernel
theorem dX11_inconsistencies_45 : decode cX11_inconsistencies 45 = .ok (.aload_n 0, 1) := by decide +kernel
theorem dX11_inconsistencies_46 : decode cX11_inconsistencies 46 = .ok (.iload_n 2, 1) := by decide +kernel
theorem dX11_inconsistencies_47 : decode cX11_inconsistencies 47 = .ok (.invokevirtual 279, 3) := by decide +kernel
theorem dX11_inconsistencies_50 : decode cX11_inconsistencies 50 = .ok (.isub, 1) := by decide +kernel
theorem dX11_inconsistencies_51 : decode cX11_inconsistencies 51 = .ok (.iadd, 1) := by decide +kernel
theorem dX11_inconsistencies_52 : decode cX11_inconsistencies 52 = .ok (.istore_n 1, 1) := by decide +kernel
theorem dX11_inconsistencies_53 : decode cX11_inconsistencies 53 = .ok (.iinc 2 1, 3) := by decide +kernel
theorem dX11_inconsistencies_56 : decode cX11_inconsistencies 56 = .ok (.goto (-36), 3) := by decide +kernel
theorem dX11_inconsistencies_59 : decode cX11_inconsistencies 59 = .ok (.iload_n 1, 1) := by decide +kernel
theorem dX11_inconsistencies_60 : decode cX11_inconsistencies 60 = .ok (.ireturn, 1) := by decide +kernel
set_option maxRecDepth 20000 in
theorem ggX11_cutFor_X11_isSibling : GoodIn wsX11_cutFor wsX11_isSibling := goodIn_r _ [5, 6, 7, 8, 4, 9, 31, 32, 33, 34, 35, 36, 37, 38, 39, 40, 41, 42, 43, 44, 45, 46, 47, 48, 49, 50] (by decide +kernel) (by decide +kernel)
set_option maxRecDepth 20000 in
theorem gX11_cutFor_X11_isSibling : GoodIn wsX11_cutFor (wsV RX11 94 RX11 yX11_isSibling wsX11_isSibling) := goodIn_app (goodIn_of _ (by decide +kernel)) ggX11_cutFor_X11_isSibling
set_option maxRecDepth 20000 in
theorem ggX11_cutFor_X11_fails : GoodIn wsX11_cutFor wsX11_fails := goodIn_r _ [13, 14, 31, 32, 33, 34, 35, 36, 37, 38, 39, 40, 41, 42, 43, 44, 45, 46, 47, 48, 49, 50] (by decide +kernel) (by decide +kernel)
set_option maxRecDepth 20000 in
theorem gX11_cutFor_X11_fails : GoodIn wsX11_cutFor (wsV RX11 171 RX11 yX11_fails wsX11_fails) := goodIn_app (goodIn_of _ (by decide +kernel)) ggX11_cutFor_X11_fails
set_option maxRecDepth 20000 in
theorem ggX11_cutFor_X11_cutOf : GoodIn wsX11_cutFor wsX11_cutOf := goodIn_r _ [18, 6, 19, 20, 21, 4, 22, 23, 24, 25, 26, 27, 28, 29, 30, 31, 32, 33, 34, 35, 36, 37, 38, 39, 40, 41, 42, 43, 44, 45, 46, 47, 48, 49, 50] (by decide +kernel) (by decide +kernel)
set_option maxRecDepth 20000 in
theorem gX11_cutFor_X11_cutOf : GoodIn wsX11_cutFor (wsV RX11 137 RX11 yX11_cutOf wsX11_cutOf) := goodIn_app (goodIn_of _ (by decide +kernel)) ggX11_cutFor_X11_cutOf
theorem dX11_cutFor_0 : decode cX11_cutFor 0 = .ok (.aload_n 0, 1) := by decide +kernel
theorem dX11_cutFor_1 : decode cX11_cutFor 1 = .ok (.aload_n 0, 1) := by decide +kernel
theorem dX11_cutFor_2 : decode cX11_cutFor 2 = .ok (.iload_n 1, 1) := by decide +kernel
theorem dX11_cutFor_3 : decode cX11_cutFor 3 = .ok (.invokevirtual 94, 3) := by decide +kernel
theorem dX11_cutFor_6 : decode cX11_cutFor 6 = .ok (.ifCond .ne 7, 3) := by decide +kernel
theorem dX11_cutFor_9 : decode cX11_cutFor 9 = .ok (.iconst 1, 1) := by decide +kernel
theorem dX11_cutFor_10 : decode cX11_cutFor 10 = .ok (.goto 4, 3) := by decide +kernel
theorem dX11_cutFor_13 : decode cX11_cutFor 13 = .ok (.iconst 0, 1) := by decide +kernel
theorem dX11_cutFor_14 : decode cX11_cutFor 14 = .ok (.iconst 0, 1) := by decide +kernel
theorem dX11_cutFor_15 : decode cX11_cutFor 15 = .ok (.iconst 0, 1) := by decide +kernel
theorem dX11_cutFor_16 : decode cX11_cutFor 16 = .ok (.invokevirtual 171, 3) := by decide +kernel
theorem dX11_cutFor_19 : decode cX11_cutFor 19 = .ok (.ifCond .eq 5, 3) := by decide +kernel
theorem dX11_cutFor_22 : decode cX11_cutFor 22 = .ok (.iconst 0, 1) := by decide +kernel
theorem dX11_cutFor_23 : decode cX11_cutFor 23 = .ok (.ireturn, 1) := by decide +kernel
theorem dX11_cutFor_24 : decode cX11_cutFor 24 = .ok (.aload_n 0, 1) := by decide +kernel
theorem dX11_cutFor_25 : decode cX11_cutFor 25 = .ok (.iload_n 1, 1) := by decide +kernel
theorem dX11_cutFor_26 : decode cX11_cutFor 26 = .ok (.invokevirtual 137, 3) := by decide +kernel
theorem dX11_cutFor_29 : decode cX11_cutFor 29 = .ok (.ireturn, 1) := by decide +kernel
set_option maxRecDepth 20000 in
theorem ggX11_welfareByKnife_X11_isSibling : GoodIn wsX11_welfareByKnife wsX11_isSibling := goodIn_r _ [5, 6, 7, 8, 4, 9, 68, 69, 70, 71, 72, 73, 74, 75, 76, 77, 78, 79, 80, 81, 82, 83, 84, 85, 86, 87] (by decide +kernel) (by decide +kernel)
set_option maxRecDepth 20000 in
theorem gX11_welfareByKnife_X11_isSibling : GoodIn wsX11_welfareByKnife (wsV RX11 94 RX11 yX11_isSibling wsX11_isSibling) := goodIn_app (goodIn_of _ (by decide +kernel)) ggX11_welfareByKnife_X11_isSibling
set_option maxRecDepth 20000 in
theorem ggX11_welfareByKnife_X11_fails : GoodIn wsX11_welfareByKnife wsX11_fails := goodIn_r _ [13, 14, 68, 69, 70, 71, 72, 73, 74, 75, 76, 77, 78, 79, 80, 81, 82, 83, 84, 85, 86, 87] (by decide +kernel) (by decide +kernel)
set_option maxRecDepth 20000 in
theorem gX11_welfareByKnife_X11_fails : GoodIn wsX11_welfareByKnife (wsV RX11 171 RX11 yX11_fails wsX11_fails) := goodIn_app (goodIn_of _ (by decide +kernel)) ggX11_welfareByKnife_X11_fails
set_option maxRecDepth 20000 in
theorem ggX11_welfareByKnife_X11_copyBlock : GoodIn wsX11_welfareByKnife wsX11_copyBlock := goodIn_r _ [18, 6, 68, 69, 70, 71, 72, 73, 74, 75, 76, 77, 78, 79, 80, 81, 82, 83, 84, 85, 86, 87] (by decide +kernel) (by decide +kernel)
set_option maxRecDepth 20000 in
theorem gX11_welfareByKnife_X11_copyBlock : GoodIn wsX11_welfareByKnife (wsV RX11 101 RX11 yX11_copyBlock wsX11_copyBlock) := goodIn_app (goodIn_of _ (by decide +kernel)) ggX11_welfareByKnife_X11_copyBlock
set_option maxRecDepth 20000 in
theorem ggX11_welfareByKnife_X11_knife : GoodIn wsX11_welfareByKnife wsX11_knife := goodIn_r _ [22, 23, 6, 24, 25, 26, 4, 27, 28, 29, 30, 31, 32, 33, 34, 35, 36, 37, 38, 39, 40, 41, 42, 43, 44, 45, 46, 47, 48, 49, 50, 51, 52, 53, 54, 55, 56, 57, 58, 59, 60, 61, 62, 63, 64, 65, 66, 67, 68, 69, 70, 71, 72, 73, 74, 75, 76, 77, 78, 79, 80, 81, 82, 83, 84, 85, 86, 87] (by decide +kernel) (by decide +kernel)
set_option maxRecDepth 20000 in
theorem gX11_welfareByKnife_X11_knife : GoodIn wsX11_welfareByKnife (wsV RX11 252 RX11 yX11_knife wsX11_knife) := goodIn_app (goodIn_of _ (by decide +kernel)) ggX11_welfareByKnife_X11_knife
set_option maxRecDepth 20000 in
theorem ggX11_welfareByKnife_X11_welfareOf : GoodIn wsX11_welfareByKnife wsX11_welfareOf := goodIn_r _ [55, 56, 57, 58, 4, 59, 6, 60, 61, 62, 63, 36, 37, 38, 39, 68, 69, 70, 71, 72, 73, 74, 75, 76, 77, 78, 79, 80, 81, 82, 83, 84, 85, 86, 87] (by decide +kernel) (by decide +kernel)
set_option maxRecDepth 20000 in
theorem gX11_welfareByKnife_X11_welfareOf : GoodIn wsX11_welfareByKnife (wsV RX11 120 RX11 yX11_welfareOf wsX11_welfareOf) := goodIn_app (goodIn_of _ (by decide +kernel)) ggX11_welfareByKnife_X11_welfareOf
theorem dX11_welfareByKnife_0 : decode cX11_welfareByKnife 0 = .ok (.aload_n 0, 1) := by decide +kernel
theorem dX11_welfareByKnife_1 : decode cX11_welfareByKnife 1 = .ok (.aload_n 0, 1) := by decide +kernel
theorem dX11_welfareByKnife_2 : decode cX11_welfareByKnife 2 = .ok (.iload_n 1, 1) := by decide +kernel
theorem dX11_welfareByKnife_3 : decode cX11_welfareByKnife 3 = .ok (.invokevirtual 94, 3) := by decide +kernel
theorem dX11_welfareByKnife_6 : decode cX11_welfareByKnife 6 = .ok (.ifCond .ne 7, 3) := by decide +kernel
theorem dX11_welfareByKnife_9 : decode cX11_welfareByKnife 9 = .ok (.iconst 1, 1) := by decide +kernel
theorem dX11_welfareByKnife_10 : decode cX11_welfareByKnife 10 = .ok (.goto 4, 3) := by decide +kernel
theorem dX11_welfareByKnife_13 : decode cX11_welfareByKnife 13 = .ok (.iconst 0, 1) := by decide +kernel
theorem dX11_welfareByKnife_14 : decode cX11_welfareByKnife 14 = .ok (.iconst 0, 1) := by decide +kernel
theorem dX11_welfareByKnife_15 : decode cX11_welfareByKnife 15 = .ok (.iconst 0, 1) := by decide +kernel
theorem dX11_welfareByKnife_16 : decode cX11_welfareByKnife 16 = .ok (.invokevirtual 171, 3) := by decide +kernel
theorem dX11_welfareByKnife_19 : decode cX11_welfareByKnife 19 = .ok (.ifCond .eq 5, 3) := by decide +kernel
theorem dX11_welfareByKnife_22 : decode cX11_welfareByKnife 22 = .ok (.iconst 0, 1) := by decide +kernel
theorem dX11_welfareByKnife_23 : decode cX11_welfareByKnife 23 = .ok (.ireturn, 1) := by decide +kernel
theorem dX11_welfareByKnife_24 : decode cX11_welfareByKnife 24 = .ok (.aload_n 0, 1) := by decide +kernel
theorem dX11_welfareByKnife_25 : decode cX11_welfareByKnife 25 = .ok (.iconst 0, 1) := by decide +kernel
theorem dX11_welfareByKnife_26 : decode cX11_welfareByKnife 26 = .ok (.bipush 9, 2) := by decide +kernel
theorem dX11_welfareByKnife_28 : decode cX11_welfareByKnife 28 = .ok (.invokevirtual 101, 3) := by decide +kernel
theorem dX11_welfareByKnife_31 : decode cX11_welfareByKnife 31 = .ok (.aload_n 0, 1) := by decide +kernel
theorem dX11_welfareByKnife_32 : decode cX11_welfareByKnife 32 = .ok (.invokevirtual 252, 3) := by decide +kernel
theorem dX11_welfareByKnife_35 : decode cX11_welfareByKnife 35 = .ok (.pop, 1) := by decide +kernel
theorem dX11_welfareByKnife_36 : decode cX11_welfareByKnife 36 = .ok (.aload_n 0, 1) := by decide +kernel
theorem dX11_welfareByKnife_37 : decode cX11_welfareByKnife 37 = .ok (.iload_n 1, 1) := by decide +kernel
theorem dX11_welfareByKnife_38 : decode cX11_welfareByKnife 38 = .ok (.invokevirtual 120, 3) := by decide +kernel
theorem dX11_welfareByKnife_41 : decode cX11_welfareByKnife 41 = .ok (.istore_n 2, 1) := by decide +kernel
theorem dX11_welfareByKnife_42 : decode cX11_welfareByKnife 42 = .ok (.aload_n 0, 1) := by decide +kernel
theorem dX11_welfareByKnife_43 : decode cX11_welfareByKnife 43 = .ok (.bipush 9, 2) := by decide +kernel
theorem dX11_welfareByKnife_45 : decode cX11_welfareByKnife 45 = .ok (.iconst 0, 1) := by decide +kernel
theorem dX11_welfareByKnife_46 : decode cX11_welfareByKnife 46 = .ok (.invokevirtual 101, 3) := by decide +kernel
theorem dX11_welfareByKnife_49 : decode cX11_welfareByKnife 49 = .ok (.iload_n 2, 1) := by decide +kernel
theorem dX11_welfareByKnife_50 : decode cX11_welfareByKnife 50 = .ok (.ireturn, 1) := by decide +kernel
set_option maxRecDepth 20000 in
theorem ggX11_welfareByRobin_X11_areSiblings : GoodIn wsX11_welfareByRobin wsX11_areSiblings := goodIn_r _ [5, 6, 7, 8, 4, 9, 10, 11, 12, 13, 51, 52, 53, 54, 55, 56, 57, 58, 59, 60, 61, 62, 63, 64, 65, 66, 67, 68, 69, 70] (by decide +kernel) (by decide +kernel)
set_option maxRecDepth 20000 in
theorem gX11_welfareByRobin_X11_areSiblings : GoodIn wsX11_welfareByRobin (wsV RX11 276 RX11 yX11_areSiblings wsX11_areSiblings) := goodIn_app (goodIn_of _ (by decide +kernel)) ggX11_welfareByRobin_X11_areSiblings
set_option maxRecDepth 20000 in
theorem ggX11_welfareByRobin_X11_fails : GoodIn wsX11_welfareByRobin wsX11_fails := goodIn_r _ [17, 18, 51, 52, 53, 54, 55, 56, 57, 58, 59, 60, 61, 62, 63, 64, 65, 66, 67, 68, 69, 70] (by decide +kernel) (by decide +kernel)
set_option maxRecDepth 20000 in
theorem gX11_welfareByRobin_X11_fails : GoodIn wsX11_welfareByRobin (wsV RX11 171 RX11 yX11_fails wsX11_fails) := goodIn_app (goodIn_of _ (by decide +kernel)) ggX11_welfareByRobin_X11_fails
set_option maxRecDepth 20000 in
theorem ggX11_welfareByRobin_X11_copyBlock : GoodIn wsX11_welfareByRobin wsX11_copyBlock := goodIn_r _ [22, 10, 51, 52, 53, 54, 55, 56, 57, 58, 59, 60, 61, 62, 63, 64, 65, 66, 67, 68, 69, 70] (by decide +kernel) (by decide +kernel)
set_option maxRecDepth 20000 in
theorem gX11_welfareByRobin_X11_copyBlock : GoodIn wsX11_welfareByRobin (wsV RX11 101 RX11 yX11_copyBlock wsX11_copyBlock) := goodIn_app (goodIn_of _ (by decide +kernel)) ggX11_welfareByRobin_X11_copyBlock
set_option maxRecDepth 20000 in
theorem ggX11_welfareByRobin_X11_clear : GoodIn wsX11_welfareByRobin wsX11_clear := goodIn_r _ [26, 10, 51, 52, 53, 54, 55, 56, 57, 58, 59, 60, 61, 62, 63, 64, 65, 66, 67, 68, 69, 70] (by decide +kernel) (by decide +kernel)
set_option maxRecDepth 20000 in
theorem gX11_welfareByRobin_X11_clear : GoodIn wsX11_welfareByRobin (wsV RX11 144 RX11 yX11_clear wsX11_clear) := goodIn_app (goodIn_of _ (by decide +kernel)) ggX11_welfareByRobin_X11_clear
set_option maxRecDepth 20000 in
theorem ggX11_welfareByRobin_X11_robin : GoodIn wsX11_welfareByRobin wsX11_robin := goodIn_r _ [30, 10, 31, 32, 33, 4, 34, 35, 36, 37, 38, 39, 40, 41, 42, 51, 52, 53, 54, 55, 56, 57, 58, 59, 60, 61, 62, 63, 64, 65, 66, 67, 68, 69, 70] (by decide +kernel) (by decide +kernel)
set_option maxRecDepth 20000 in
theorem gX11_welfareByRobin_X11_robin : GoodIn wsX11_welfareByRobin (wsV RX11 254 RX11 yX11_robin wsX11_robin) := goodIn_app (goodIn_of _ (by decide +kernel)) ggX11_welfareByRobin_X11_robin
set_option maxRecDepth 20000 in
theorem ggX11_welfareByRobin_X11_welfareOf : GoodIn wsX11_welfareByRobin wsX11_welfareOf := goodIn_r _ [46, 47, 48, 49, 4, 50, 10, 35, 36, 37, 38, 39, 40, 41, 42, 51, 52, 53, 54, 55, 56, 57, 58, 59, 60, 61, 62, 63, 64, 65, 66, 67, 68, 69, 70] (by decide +kernel) (by decide +kernel)
set_option maxRecDepth 20000 in
theorem gX11_welfareByRobin_X11_welfareOf : GoodIn wsX11_welfareByRobin (wsV RX11 120 RX11 yX11_welfareOf wsX11_welfareOf) := goodIn_app (goodIn_of _ (by decide +kernel)) ggX11_welfareByRobin_X11_welfareOf
theorem dX11_welfareByRobin_0 : decode cX11_welfareByRobin 0 = .ok (.aload_n 0, 1) := by decide +kernel
theorem dX11_welfareByRobin_1 : decode cX11_welfareByRobin 1 = .ok (.aload_n 0, 1) := by decide +kernel
theorem dX11_welfareByRobin_2 : decode cX11_welfareByRobin 2 = .ok (.iload_n 1, 1) := by decide +kernel
theorem dX11_welfareByRobin_3 : decode cX11_welfareByRobin 3 = .ok (.iload_n 2, 1) := by decide +kernel
theorem dX11_welfareByRobin_4 : decode cX11_welfareByRobin 4 = .ok (.invokevirtual 276, 3) := by decide +kernel
theorem dX11_welfareByRobin_7 : decode cX11_welfareByRobin 7 = .ok (.ifCond .ne 7, 3) := by decide +kernel
theorem dX11_welfareByRobin_10 : decode cX11_welfareByRobin 10 = .ok (.iconst 1, 1) := by decide +kernel
theorem dX11_welfareByRobin_11 : decode cX11_welfareByRobin 11 = .ok (.goto 4, 3) := by decide +kernel
theorem dX11_welfareByRobin_14 : decode cX11_welfareByRobin 14 = .ok (.iconst 0, 1) := by decide +kernel
theorem dX11_welfareByRobin_15 : decode cX11_welfareByRobin 15 = .ok (.iconst 0, 1) := by decide +kernel
theorem dX11_welfareByRobin_16 : decode cX11_welfareByRobin 16 = .ok (.iconst 0, 1) := by decide +kernel
theorem dX11_welfareByRobin_17 : decode cX11_welfareByRobin 17 = .ok (.invokevirtual 171, 3) := by decide +kernel
theorem dX11_welfareByRobin_20 : decode cX11_welfareByRobin 20 = .ok (.ifCond .eq 5, 3) := by decide +kernel
theorem dX11_welfareByRobin_23 : decode cX11_welfareByRobin 23 = .ok (.iconst 0, 1) := by decide +kernel
theorem dX11_welfareByRobin_24 : decode cX11_welfareByRobin 24 = .ok (.ireturn, 1) := by decide +kernel
theorem dX11_welfareByRobin_25 : decode cX11_welfareByRobin 25 = .ok (.aload_n 0, 1) := by decide +kernel
theorem dX11_welfareByRobin_26 : decode cX11_welfareByRobin 26 = .ok (.iconst 0, 1) := by decide +kernel
theorem dX11_welfareByRobin_27 : decode cX11_welfareByRobin 27 = .ok (.bipush 9, 2) := by decide +kernel
theorem dX11_welfareByRobin_29 : decode cX11_welfareByRobin 29 = .ok (.invokevirtual 101, 3) := by decide +kernel
theorem dX11_welfareByRobin_32 : decode cX11_welfareByRobin 32 = .ok (.aload_n 0, 1) := by decide +kernel
theorem dX11_welfareByRobin_33 : decode cX11_welfareByRobin 33 = .ok (.invokevirtual 144, 3) := by decide +kernel
theorem dX11_welfareByRobin_36 : decode cX11_welfareByRobin 36 = .ok (.aload_n 0, 1) := by decide +kernel
theorem dX11_welfareByRobin_37 : decode cX11_welfareByRobin 37 = .ok (.iload_n 2, 1) := by decide +kernel
theorem dX11_welfareByRobin_38 : decode cX11_welfareByRobin 38 = .ok (.invokevirtual 254, 3) := by decide +kernel
theorem dX11_welfareByRobin_41 : decode cX11_welfareByRobin 41 = .ok (.pop, 1) := by decide +kernel
theorem dX11_welfareByRobin_42 : decode cX11_welfareByRobin 42 = .ok (.aload_n 0, 1) := by decide +kernel
theorem dX11_welfareByRobin_43 : decode cX11_welfareByRobin 43 = .ok (.iload_n 1, 1) := by decide +kernel
theorem dX11_welfareByRobin_44 : decode cX11_welfareByRobin 44 = .ok (.invokevirtual 120, 3) := by decide +kernel
theorem dX11_welfareByRobin_47 : decode cX11_welfareByRobin 47 = .ok (.istore_n 3, 1) := by decide +kernel
theorem dX11_welfareByRobin_48 : decode cX11_welfareByRobin 48 = .ok (.aload_n 0, 1) := by decide +kernel
theorem dX11_welfareByRobin_49 : decode cX11_welfareByRobin 49 = .ok (.bipush 9, 2) := by decide +kernel
theorem dX11_welfareByRobin_51 : decode cX11_welfareByRobin 51 = .ok (.iconst 0, 1) := by decide +kernel
theorem dX11_welfareByRobin_52 : decode cX11_welfareByRobin 52 = .ok (.invokevirtual 101, 3) := by decide +kernel
theorem dX11_welfareByRobin_55 : decode cX11_welfareByRobin 55 = .ok (.iload_n 3, 1) := by decide +kernel
theorem dX11_welfareByRobin_56 : decode cX11_welfareByRobin 56 = .ok (.ireturn, 1) := by decide +kernel
set_option maxRecDepth 20000 in
theorem ggX11_bestFirst_X11_copyBlock : GoodIn wsX11_bestFirst wsX11_copyBlock := goodIn_r _ [7, 2, 40, 41, 42, 43, 44, 45, 46, 47, 48, 49, 50, 51, 52, 53, 54, 55, 56, 57, 58, 59] (by decide +kernel) (by decide +kernel)
set_option maxRecDepth 20000 in
theorem gX11_bestFirst_X11_copyBlock : GoodIn wsX11_bestFirst (wsV RX11 101 RX11 yX11_copyBlock wsX11_copyBlock) := goodIn_app (goodIn_of _ (by decide +kernel)) ggX11_bestFirst_X11_copyBlock
set_option maxRecDepth 20000 in
theorem ggX11_bestFirst_X11_clear : GoodIn wsX11_bestFirst wsX11_clear := goodIn_r _ [11, 2, 40, 41, 42, 43, 44, 45, 46, 47, 48, 49, 50, 51, 52, 53, 54, 55, 56, 57, 58, 59] (by decide +kernel) (by decide +kernel)
set_option maxRecDepth 20000 in
theorem gX11_bestFirst_X11_clear : GoodIn wsX11_bestFirst (wsV RX11 144 RX11 yX11_clear wsX11_clear) := goodIn_app (goodIn_of _ (by decide +kernel)) ggX11_bestFirst_X11_clear
set_option maxRecDepth 20000 in
theorem ggX11_bestFirst_X11_robin : GoodIn wsX11_bestFirst wsX11_robin := goodIn_r _ [15, 2, 16, 17, 18, 6, 19, 20, 21, 22, 23, 24, 25, 26, 27, 40, 41, 42, 43, 44, 45, 46, 47, 48, 49, 50, 51, 52, 53, 54, 55, 56, 57, 58, 59] (by decide +kernel) (by decide +kernel)
set_option maxRecDepth 20000 in
theorem gX11_bestFirst_X11_robin : GoodIn wsX11_bestFirst (wsV RX11 254 RX11 yX11_robin wsX11_robin) := goodIn_app (goodIn_of _ (by decide +kernel)) ggX11_bestFirst_X11_robin
set_option maxRecDepth 20000 in
theorem ggX11_bestFirst_X11_least : GoodIn wsX11_bestFirst wsX11_least := goodIn_r _ [31, 2, 32, 33, 34, 6, 35, 36, 37, 38, 39, 20, 21, 22, 23, 24, 25, 26, 27, 40, 41, 42, 43, 44, 45, 46, 47, 48, 49, 50, 51, 52, 53, 54, 55, 56, 57, 58, 59] (by decide +kernel) (by decide +kernel)
set_option maxRecDepth 20000 in
theorem gX11_bestFirst_X11_least : GoodIn wsX11_bestFirst (wsV RX11 294 RX11 yX11_least wsX11_least) := goodIn_app (goodIn_of _ (by decide +kernel)) ggX11_bestFirst_X11_least
theorem dX11_bestFirst_0 : decode cX11_bestFirst 0 = .ok (.aload_n 0, 1) := by decide +kernel
theorem dX11_bestFirst_1 : decode cX11_bestFirst 1 = .ok (.iconst 0, 1) := by decide +kernel
theorem dX11_bestFirst_2 : decode cX11_bestFirst 2 = .ok (.putfield 1, 3) := by decide +kernel
theorem dX11_bestFirst_5 : decode cX11_bestFirst 5 = .ok (.aload_n 0, 1) := by decide +kernel
theorem dX11_bestFirst_6 : decode cX11_bestFirst 6 = .ok (.iconst 0, 1) := by decide +kernel
theorem dX11_bestFirst_7 : decode cX11_bestFirst 7 = .ok (.bipush 9, 2) := by decide +kernel
theorem dX11_bestFirst_9 : decode cX11_bestFirst 9 = .ok (.invokevirtual 101, 3) := by decide +kernel
theorem dX11_bestFirst_12 : decode cX11_bestFirst 12 = .ok (.iconst (-1), 1) := by decide +kernel
theorem dX11_bestFirst_13 : decode cX11_bestFirst 13 = .ok (.istore_n 1, 1) := by decide +kernel
theorem dX11_bestFirst_14 : decode cX11_bestFirst 14 = .ok (.iconst (-1), 1) := by decide +kernel
theorem dX11_bestFirst_15 : decode cX11_bestFirst 15 = .ok (.istore_n 2, 1) := by decide +kernel
theorem dX11_bestFirst_16 : decode cX11_bestFirst 16 = .ok (.iconst 0, 1) := by decide +kernel
theorem dX11_bestFirst_17 : decode cX11_bestFirst 17 = .ok (.istore_n 3, 1) := by decide +kernel
theorem dX11_bestFirst_18 : decode cX11_bestFirst 18 = .ok (.iload_n 3, 1) := by decide +kernel
theorem dX11_bestFirst_19 : decode cX11_bestFirst 19 = .ok (.aload_n 0, 1) := by decide +kernel
theorem dX11_bestFirst_20 : decode cX11_bestFirst 20 = .ok (.getfield 13, 3) := by decide +kernel
theorem dX11_bestFirst_23 : decode cX11_bestFirst 23 = .ok (.iconst 1, 1) := by decide +kernel
theorem dX11_bestFirst_24 : decode cX11_bestFirst 24 = .ok (.iaload, 1) := by decide +kernel
theorem dX11_bestFirst_25 : decode cX11_bestFirst 25 = .ok (.if_icmp .ge 37, 3) := by decide +kernel
theorem dX11_bestFirst_28 : decode cX11_bestFirst 28 = .ok (.aload_n 0, 1) := by decide +kernel
theorem dX11_bestFirst_29 : decode cX11_bestFirst 29 = .ok (.invokevirtual 144, 3) := by decide +kernel
theorem dX11_bestFirst_32 : decode cX11_bestFirst 32 = .ok (.aload_n 0, 1) := by decide +kernel
theorem dX11_bestFirst_33 : decode cX11_bestFirst 33 = .ok (.iload_n 3, 1) := by decide +kernel
theorem dX11_bestFirst_34 : decode cX11_bestFirst 34 = .ok (.invokevirtual 254, 3) := by decide +kernel
theorem dX11_bestFirst_37 : decode cX11_bestFirst 37 = .ok (.pop, 1) := by decide +kernel
theorem dX11_bestFirst_38 : decode cX11_bestFirst 38 = .ok (.aload_n 0, 1) := by decide +kernel
theorem dX11_bestFirst_39 : decode cX11_bestFirst 39 = .ok (.invokevirtual 294, 3) := by decide +kernel
theorem dX11_bestFirst_42 : decode cX11_bestFirst 42 = .ok (.iload_n 2, 1) := by decide +kernel
theorem dX11_bestFirst_43 : decode cX11_bestFirst 43 = .ok (.if_icmp .gt 6, 3) := by decide +kernel
theorem dX11_bestFirst_46 : decode cX11_bestFirst 46 = .ok (.goto 10, 3) := by decide +kernel
theorem dX11_bestFirst_49 : decode cX11_bestFirst 49 = .ok (.iload_n 3, 1) := by decide +kernel
theorem dX11_bestFirst_50 : decode cX11_bestFirst 50 = .ok (.istore_n 1, 1) := by decide +kernel
theorem dX11_bestFirst_51 : decode cX11_bestFirst 51 = .ok (.aload_n 0, 1) := by decide +kernel
theorem dX11_bestFirst_52 : decode cX11_bestFirst 52 = .ok (.invokevirtual 294, 3) := by decide +kernel
theorem dX11_bestFirst_55 : decode cX11_bestFirst 55 = .ok (.istore_n 2, 1) := by decide +kernel
theorem dX11_bestFirst_56 : decode cX11_bestFirst 56 = .ok (.iinc 3 1, 3) := by decide +kernel
theorem dX11_bestFirst_59 : decode cX11_bestFirst 59 = .ok (.goto (-41), 3) := by decide +kernel
theorem dX11_bestFirst_62 : decode cX11_bestFirst 62 = .ok (.aload_n 0, 1) := by decide +kernel
theorem dX11_bestFirst_63 : decode cX11_bestFirst 63 = .ok (.bipush 9, 2) := by decide +kernel
theorem dX11_bestFirst_65 : decode cX11_bestFirst 65 = .ok (.iconst 0, 1) := by decide +kernel
theorem dX11_bestFirst_66 : decode cX11_bestFirst 66 = .ok (.invokevirtual 101, 3) := by decide +kernel
theorem dX11_bestFirst_69 : decode cX11_bestFirst 69 = .ok (.iload_n 1, 1) := by decide +kernel
theorem dX11_bestFirst_70 : decode cX11_bestFirst 70 = .ok (.ireturn, 1) := by decide +kernel
set_option maxRecDepth 20000 in
theorem ggX11_give_X11_isSibling : GoodIn wsX11_give wsX11_isSibling := goodIn_r _ [5, 6, 7, 8, 4, 9, 52, 53, 54, 55, 56, 57, 58, 59, 60, 61, 62, 63, 64, 65, 66, 67, 68, 69, 70, 71] (by decide +kernel) (by decide +kernel)
set_option maxRecDepth 20000 in
theorem gX11_give_X11_isSibling : GoodIn wsX11_give (wsV RX11 94 RX11 yX11_isSibling wsX11_isSibling) := goodIn_app (goodIn_of _ (by decide +kernel)) ggX11_give_X11_isSibling
set_option maxRecDepth 20000 in
theorem ggX11_give_X11_isRange : GoodIn wsX11_give wsX11_isRange := goodIn_r _ [13, 14, 15, 16, 4, 17, 6, 7, 8, 9, 52, 53, 54, 55, 56, 57, 58, 59, 60, 61, 62, 63, 64, 65, 66, 67, 68, 69, 70, 71] (by decide +kernel) (by decide +kernel)
set_option maxRecDepth 20000 in
theorem gX11_give_X11_isRange : GoodIn wsX11_give (wsV RX11 244 RX11 yX11_isRange wsX11_isRange) := goodIn_app (goodIn_of _ (by decide +kernel)) ggX11_give_X11_isRange
set_option maxRecDepth 20000 in
theorem ggX11_give_X11_fails : GoodIn wsX11_give wsX11_fails := goodIn_r _ [21, 22, 52, 53, 54, 55, 56, 57, 58, 59, 60, 61, 62, 63, 64, 65, 66, 67, 68, 69, 70, 71] (by decide +kernel) (by decide +kernel)
set_option maxRecDepth 20000 in
theorem gX11_give_X11_fails : GoodIn wsX11_give (wsV RX11 171 RX11 yX11_fails wsX11_fails) := goodIn_app (goodIn_of _ (by decide +kernel)) ggX11_give_X11_fails
set_option maxRecDepth 20000 in
theorem ggX11_give_X11_remember : GoodIn wsX11_give wsX11_remember := goodIn_r _ [26, 27, 28, 29, 30, 4, 31, 6, 52, 53, 54, 55, 56, 57, 58, 59, 60, 61, 62, 63, 64, 65, 66, 67, 68, 69, 70, 71] (by decide +kernel) (by decide +kernel)
set_option maxRecDepth 20000 in
theorem gX11_give_X11_remember : GoodIn wsX11_give (wsV RX11 262 RX11 yX11_remember wsX11_remember) := goodIn_app (goodIn_of _ (by decide +kernel)) ggX11_give_X11_remember
set_option maxRecDepth 20000 in
theorem ggX11_give_X11_own : GoodIn wsX11_give wsX11_own := goodIn_r _ [35, 6, 52, 53, 54, 55, 56, 57, 58, 59, 60, 61, 62, 63, 64, 65, 66, 67, 68, 69, 70, 71] (by decide +kernel) (by decide +kernel)
set_option maxRecDepth 20000 in
theorem gX11_give_X11_own : GoodIn wsX11_give (wsV RX11 140 RX11 yX11_own wsX11_own) := goodIn_app (goodIn_of _ (by decide +kernel)) ggX11_give_X11_own
set_option maxRecDepth 20000 in
theorem ggX11_give_X11_welfareOf : GoodIn wsX11_give wsX11_welfareOf := goodIn_r _ [39, 40, 41, 42, 4, 43, 6, 44, 45, 46, 47, 48, 49, 50, 51, 52, 53, 54, 55, 56, 57, 58, 59, 60, 61, 62, 63, 64, 65, 66, 67, 68, 69, 70, 71] (by decide +kernel) (by decide +kernel)
set_option maxRecDepth 20000 in
theorem gX11_give_X11_welfareOf : GoodIn wsX11_give (wsV RX11 120 RX11 yX11_welfareOf wsX11_welfareOf) := goodIn_app (goodIn_of _ (by decide +kernel)) ggX11_give_X11_welfareOf
theorem dX11_give_0 : decode cX11_give 0 = .ok (.aload_n 0, 1) := by decide +kernel
theorem dX11_give_1 : decode cX11_give 1 = .ok (.aload_n 0, 1) := by decide +kernel
theorem dX11_give_2 : decode cX11_give 2 = .ok (.iload_n 1, 1) := by decide +kernel
theorem dX11_give_3 : decode cX11_give 3 = .ok (.invokevirtual 94, 3) := by decide +kernel
theorem dX11_give_6 : decode cX11_give 6 = .ok (.ifCond .ne 7, 3) := by decide +kernel
theorem dX11_give_9 : decode cX11_give 9 = .ok (.iconst 1, 1) := by decide +kernel
theorem dX11_give_10 : decode cX11_give 10 = .ok (.goto 4, 3) := by decide +kernel
theorem dX11_give_13 : decode cX11_give 13 = .ok (.iconst 0, 1) := by decide +kernel
theorem dX11_give_14 : decode cX11_give 14 = .ok (.aload_n 0, 1) := by decide +kernel
theorem dX11_give_15 : decode cX11_give 15 = .ok (.iload_n 2, 1) := by decide +kernel
theorem dX11_give_16 : decode cX11_give 16 = .ok (.iload_n 3, 1) := by decide +kernel
theorem dX11_give_17 : decode cX11_give 17 = .ok (.invokevirtual 244, 3) := by decide +kernel
theorem dX11_give_20 : decode cX11_give 20 = .ok (.ifCond .ne 7, 3) := by decide +kernel
theorem dX11_give_23 : decode cX11_give 23 = .ok (.iconst 1, 1) := by decide +kernel
theorem dX11_give_24 : decode cX11_give 24 = .ok (.goto 4, 3) := by decide +kernel
theorem dX11_give_27 : decode cX11_give 27 = .ok (.iconst 0, 1) := by decide +kernel
theorem dX11_give_28 : decode cX11_give 28 = .ok (.iconst 0, 1) := by decide +kernel
theorem dX11_give_29 : decode cX11_give 29 = .ok (.invokevirtual 171, 3) := by decide +kernel
theorem dX11_give_32 : decode cX11_give 32 = .ok (.ifCond .eq 5, 3) := by decide +kernel
theorem dX11_give_35 : decode cX11_give 35 = .ok (.iconst 0, 1) := by decide +kernel
theorem dX11_give_36 : decode cX11_give 36 = .ok (.ireturn, 1) := by decide +kernel
theorem dX11_give_37 : decode cX11_give 37 = .ok (.aload_n 0, 1) := by decide +kernel
theorem dX11_give_38 : decode cX11_give 38 = .ok (.iconst 0, 1) := by decide +kernel
theorem dX11_give_39 : decode cX11_give 39 = .ok (.invokevirtual 262, 3) := by decide +kernel
theorem dX11_give_42 : decode cX11_give 42 = .ok (.aload_n 0, 1) := by decide +kernel
theorem dX11_give_43 : decode cX11_give 43 = .ok (.iload_n 1, 1) := by decide +kernel
theorem dX11_give_44 : decode cX11_give 44 = .ok (.iload_n 2, 1) := by decide +kernel
theorem dX11_give_45 : decode cX11_give 45 = .ok (.iload_n 3, 1) := by decide +kernel
theorem dX11_give_46 : decode cX11_give 46 = .ok (.invokevirtual 140, 3) := by decide +kernel
theorem dX11_give_49 : decode cX11_give 49 = .ok (.aload_n 0, 1) := by decide +kernel
theorem dX11_give_50 : decode cX11_give 50 = .ok (.iload_n 1, 1) := by decide +kernel
theorem dX11_give_51 : decode cX11_give 51 = .ok (.invokevirtual 120, 3) := by decide +kernel
theorem dX11_give_54 : decode cX11_give 54 = .ok (.ireturn, 1) := by decide +kernel
set_option maxRecDepth 20000 in
theorem ggX11_release_X11_isRange : GoodIn wsX11_release wsX11_isRange := goodIn_r _ [5, 6, 7, 8, 4, 9, 10, 11, 12, 13, 40, 41, 42, 43, 44, 45, 46, 47, 48, 49, 50, 51, 52, 53, 54, 55, 56, 57, 58, 59] (by decide +kernel) (by decide +kernel)
set_option maxRecDepth 20000 in
theorem gX11_release_X11_isRange : GoodIn wsX11_release (wsV RX11 244 RX11 yX11_isRange wsX11_isRange) := goodIn_app (goodIn_of _ (by decide +kernel)) ggX11_release_X11_isRange
set_option maxRecDepth 20000 in
theorem ggX11_release_X11_fails : GoodIn wsX11_release wsX11_fails := goodIn_r _ [17, 18, 40, 41, 42, 43, 44, 45, 46, 47, 48, 49, 50, 51, 52, 53, 54, 55, 56, 57, 58, 59] (by decide +kernel) (by decide +kernel)
set_option maxRecDepth 20000 in
theorem gX11_release_X11_fails : GoodIn wsX11_release (wsV RX11 171 RX11 yX11_fails wsX11_fails) := goodIn_app (goodIn_of _ (by decide +kernel)) ggX11_release_X11_fails
set_option maxRecDepth 20000 in
theorem ggX11_release_X11_remember : GoodIn wsX11_release wsX11_remember := goodIn_r _ [22, 23, 24, 25, 26, 4, 27, 10, 40, 41, 42, 43, 44, 45, 46, 47, 48, 49, 50, 51, 52, 53, 54, 55, 56, 57, 58, 59] (by decide +kernel) (by decide +kernel)
set_option maxRecDepth 20000 in
theorem gX11_release_X11_remember : GoodIn wsX11_release (wsV RX11 262 RX11 yX11_remember wsX11_remember) := goodIn_app (goodIn_of _ (by decide +kernel)) ggX11_release_X11_remember
set_option maxRecDepth 20000 in
theorem ggX11_release_X11_own : GoodIn wsX11_release wsX11_own := goodIn_r _ [31, 10, 40, 41, 42, 43, 44, 45, 46, 47, 48, 49, 50, 51, 52, 53, 54, 55, 56, 57, 58, 59] (by decide +kernel) (by decide +kernel)
set_option maxRecDepth 20000 in
theorem gX11_release_X11_own : GoodIn wsX11_release (wsV RX11 140 RX11 yX11_own wsX11_own) := goodIn_app (goodIn_of _ (by decide +kernel)) ggX11_release_X11_own
set_option maxRecDepth 20000 in
theorem ggX11_release_X11_sizeOf : GoodIn wsX11_release wsX11_sizeOf := goodIn_r _ [35, 10, 36, 37, 38, 4, 39, 40, 41, 42, 43, 44, 45, 46, 47, 48, 49, 50, 51, 52, 53, 54, 55, 56, 57, 58, 59] (by decide +kernel) (by decide +kernel)
set_option maxRecDepth 20000 in
theorem gX11_release_X11_sizeOf : GoodIn wsX11_release (wsV RX11 279 RX11 yX11_sizeOf wsX11_sizeOf) := goodIn_app (goodIn_of _ (by decide +kernel)) ggX11_release_X11_sizeOf
theorem dX11_release_0 : decode cX11_release 0 = .ok (.aload_n 0, 1) := by decide +kernel
theorem dX11_release_1 : decode cX11_release 1 = .ok (.aload_n 0, 1) := by decide +kernel
theorem dX11_release_2 : decode cX11_release 2 = .ok (.iload_n 1, 1) := by decide +kernel
theorem dX11_release_3 : decode cX11_release 3 = .ok (.iload_n 2, 1) := by decide +kernel
theorem dX11_release_4 : decode cX11_release 4 = .ok (.invokevirtual 244, 3) := by decide +kernel
theorem dX11_release_7 : decode cX11_release 7 = .ok (.ifCond .ne 7, 3) := by decide +kernel
theorem dX11_release_10 : decode cX11_release 10 = .ok (.iconst 1, 1) := by decide +kernel
theorem dX11_release_11 : decode cX11_release 11 = .ok (.goto 4, 3) := by decide +kernel
theorem dX11_release_14 : decode cX11_release 14 = .ok (.iconst 0, 1) := by decide +kernel
theorem dX11_release_15 : decode cX11_release 15 = .ok (.iconst 0, 1) := by decide +kernel
theorem dX11_release_16 : decode cX11_release 16 = .ok (.iconst 0, 1) := by decide +kernel
theorem dX11_release_17 : decode cX11_release 17 = .ok (.invokevirtual 171, 3) := by decide +kernel
theorem dX11_release_20 : decode cX11_release 20 = .ok (.ifCond .eq 5, 3) := by decide +kernel
theorem dX11_release_23 : decode cX11_release 23 = .ok (.iconst 0, 1) := by decide +kernel
theorem dX11_release_24 : decode cX11_release 24 = .ok (.ireturn, 1) := by decide +kernel
theorem dX11_release_25 : decode cX11_release 25 = .ok (.aload_n 0, 1) := by decide +kernel
theorem dX11_release_26 : decode cX11_release 26 = .ok (.iconst 0, 1) := by decide +kernel
theorem dX11_release_27 : decode cX11_release 27 = .ok (.invokevirtual 262, 3) := by decide +kernel
theorem dX11_release_30 : decode cX11_release 30 = .ok (.aload_n 0, 1) := by decide +kernel
theorem dX11_release_31 : decode cX11_release 31 = .ok (.iconst (-1), 1) := by decide +kernel
theorem dX11_release_32 : decode cX11_release 32 = .ok (.iload_n 1, 1) := by decide +kernel
theorem dX11_release_33 : decode cX11_release 33 = .ok (.iload_n 2, 1) := by decide +kernel
theorem dX11_release_34 : decode cX11_release 34 = .ok (.invokevirtual 140, 3) := by decide +kernel
theorem dX11_release_37 : decode cX11_release 37 = .ok (.aload_n 0, 1) := by decide +kernel
theorem dX11_release_38 : decode cX11_release 38 = .ok (.iconst (-1), 1) := by decide +kernel
theorem dX11_release_39 : decode cX11_release 39 = .ok (.invokevirtual 279, 3) := by decide +kernel
theorem dX11_release_42 : decode cX11_release 42 = .ok (.ireturn, 1) := by decide +kernel
set_option maxRecDepth 20000 in
theorem ggX11_swapShares_X11_areSiblings : GoodIn wsX11_swapShares wsX11_areSiblings := goodIn_r _ [5, 6, 7, 8, 4, 9, 10, 11, 12, 13, 56, 57, 58, 59, 60, 61, 62, 63, 64, 65, 66, 67, 68, 69, 70, 71, 72, 73, 74, 75] (by decide +kernel) (by decide +kernel)
set_option maxRecDepth 20000 in
theorem gX11_swapShares_X11_areSiblings : GoodIn wsX11_swapShares (wsV RX11 276 RX11 yX11_areSiblings wsX11_areSiblings) := goodIn_app (goodIn_of _ (by decide +kernel)) ggX11_swapShares_X11_areSiblings
set_option maxRecDepth 20000 in
theorem ggX11_swapShares_X11_fails : GoodIn wsX11_swapShares wsX11_fails := goodIn_r _ [17, 18, 56, 57, 58, 59, 60, 61, 62, 63, 64, 65, 66, 67, 68, 69, 70, 71, 72, 73, 74, 75] (by decide +kernel) (by decide +kernel)
set_option maxRecDepth 20000 in
theorem gX11_swapShares_X11_fails : GoodIn wsX11_swapShares (wsV RX11 171 RX11 yX11_fails wsX11_fails) := goodIn_app (goodIn_of _ (by decide +kernel)) ggX11_swapShares_X11_fails
set_option maxRecDepth 20000 in
theorem ggX11_swapShares_X11_remember : GoodIn wsX11_swapShares wsX11_remember := goodIn_r _ [22, 23, 24, 25, 26, 4, 27, 10, 56, 57, 58, 59, 60, 61, 62, 63, 64, 65, 66, 67, 68, 69, 70, 71, 72, 73, 74, 75] (by decide +kernel) (by decide +kernel)
set_option maxRecDepth 20000 in
theorem gX11_swapShares_X11_remember : GoodIn wsX11_swapShares (wsV RX11 262 RX11 yX11_remember wsX11_remember) := goodIn_app (goodIn_of _ (by decide +kernel)) ggX11_swapShares_X11_remember
set_option maxRecDepth 20000 in
theorem ggX11_swapShares_X11_exchange : GoodIn wsX11_swapShares wsX11_exchange := goodIn_r _ [31, 10, 32, 33, 34, 4, 35, 56, 57, 58, 59, 60, 61, 62, 63, 64, 65, 66, 67, 68, 69, 70, 71, 72, 73, 74, 75] (by decide +kernel) (by decide +kernel)
set_option maxRecDepth 20000 in
theorem gX11_swapShares_X11_exchange : GoodIn wsX11_swapShares (wsV RX11 247 RX11 yX11_exchange wsX11_exchange) := goodIn_app (goodIn_of _ (by decide +kernel)) ggX11_swapShares_X11_exchange
set_option maxRecDepth 20000 in
theorem ggX11_swapShares_X11_envyTotal : GoodIn wsX11_swapShares wsX11_envyTotal := goodIn_r _ [39, 10, 40, 41, 42, 4, 43, 44, 45, 46, 47, 32, 33, 34, 35, 48, 49, 50, 51, 52, 53, 54, 55, 56, 57, 58, 59, 60, 61, 62, 63, 64, 65, 66, 67, 68, 69, 70, 71, 72, 73, 74, 75] (by decide +kernel) (by decide +kernel)
set_option maxRecDepth 20000 in
theorem gX11_swapShares_X11_envyTotal : GoodIn wsX11_swapShares (wsV RX11 288 RX11 yX11_envyTotal wsX11_envyTotal) := goodIn_app (goodIn_of _ (by decide +kernel)) ggX11_swapShares_X11_envyTotal
theorem dX11_swapShares_0 : decode cX11_swapShares 0 = .ok (.aload_n 0, 1) := by decide +kernel
theorem dX11_swapShares_1 : decode cX11_swapShares 1 = .ok (.aload_n 0, 1) := by decide +kernel
theorem dX11_swapShares_2 : decode cX11_swapShares 2 = .ok (.iload_n 1, 1) := by decide +kernel
theorem dX11_swapShares_3 : decode cX11_swapShares 3 = .ok (.iload_n 2, 1) := by decide +kernel
theorem dX11_swapShares_4 : decode cX11_swapShares 4 = .ok (.invokevirtual 276, 3) := by decide +kernel
theorem dX11_swapShares_7 : decode cX11_swapShares 7 = .ok (.ifCond .ne 7, 3) := by decide +kernel
theorem dX11_swapShares_10 : decode cX11_swapShares 10 = .ok (.iconst 1, 1) := by decide +kernel
theorem dX11_swapShares_11 : decode cX11_swapShares 11 = .ok (.goto 4, 3) := by decide +kernel
theorem dX11_swapShares_14 : decode cX11_swapShares 14 = .ok (.iconst 0, 1) := by decide +kernel
theorem dX11_swapShares_15 : decode cX11_swapShares 15 = .ok (.iload_n 1, 1) := by decide +kernel
theorem dX11_swapShares_16 : decode cX11_swapShares 16 = .ok (.iload_n 2, 1) := by decide +kernel
theorem dX11_swapShares_17 : decode cX11_swapShares 17 = .ok (.if_icmp .ne 7, 3) := by decide +kernel
theorem dX11_swapShares_20 : decode cX11_swapShares 20 = .ok (.iconst 1, 1) := by decide +kernel
theorem dX11_swapShares_21 : decode cX11_swapShares 21 = .ok (.goto 4, 3) := by decide +kernel
theorem dX11_swapShares_24 : decode cX11_swapShares 24 = .ok (.iconst 0, 1) := by decide +kernel
theorem dX11_swapShares_25 : decode cX11_swapShares 25 = .ok (.iconst 0, 1) := by decide +kernel
theorem dX11_swapShares_26 : decode cX11_swapShares 26 = .ok (.invokevirtual 171, 3) := by decide +kernel
theorem dX11_swapShares_29 : decode cX11_swapShares 29 = .ok (.ifCond .eq 5, 3) := by decide +kernel
theorem dX11_swapShares_32 : decode cX11_swapShares 32 = .ok (.iconst 0, 1) := by decide +kernel
theorem dX11_swapShares_33 : decode cX11_swapShares 33 = .ok (.ireturn, 1) := by decide +kernel
theorem dX11_swapShares_34 : decode cX11_swapShares 34 = .ok (.aload_n 0, 1) := by decide +kernel
theorem dX11_swapShares_35 : decode cX11_swapShares 35 = .ok (.iconst 0, 1) := by decide +kernel
theorem dX11_swapShares_36 : decode cX11_swapShares 36 = .ok (.invokevirtual 262, 3) := by decide +kernel
theorem dX11_swapShares_39 : decode cX11_swapShares 39 = .ok (.aload_n 0, 1) := by decide +kernel
theorem dX11_swapShares_40 : decode cX11_swapShares 40 = .ok (.iload_n 1, 1) := by decide +kernel
theorem dX11_swapShares_41 : decode cX11_swapShares 41 = .ok (.iload_n 2, 1) := by decide +kernel
theorem dX11_swapShares_42 : decode cX11_swapShares 42 = .ok (.invokevirtual 247, 3) := by decide +kernel
theorem dX11_swapShares_45 : decode cX11_swapShares 45 = .ok (.aload_n 0, 1) := by decide +kernel
theorem dX11_swapShares_46 : decode cX11_swapShares 46 = .ok (.invokevirtual 288, 3) := by decide +kernel
theorem dX11_swapShares_49 : decode cX11_swapShares 49 = .ok (.ireturn, 1) := by decide +kernel
set_option maxRecDepth 20000 in
theorem ggX11_setValue_X11_isSibling : GoodIn wsX11_setValue wsX11_isSibling := goodIn_r _ [6, 1, 7, 8, 5, 9, 32, 33, 34, 35, 36, 37, 38, 39, 40, 41, 42, 43, 44, 45, 46, 47, 48, 49, 50, 51] (by decide +kernel) (by decide +kernel)
set_option maxRecDepth 20000 in
theorem gX11_setValue_X11_isSibling : GoodIn wsX11_setValue (wsV RX11 94 RX11 yX11_isSibling wsX11_isSibling) := goodIn_app (goodIn_of _ (by decide +kernel)) ggX11_setValue_X11_isSibling
set_option maxRecDepth 20000 in
theorem ggX11_setValue_X11_isCell : GoodIn wsX11_setValue wsX11_isCell := goodIn_r _ [13, 1, 7, 8, 5, 9, 32, 33, 34, 35, 36, 37, 38, 39, 40, 41, 42, 43, 44, 45, 46, 47, 48, 49, 50, 51] (by decide +kernel) (by decide +kernel)
set_option maxRecDepth 20000 in
theorem gX11_setValue_X11_isCell : GoodIn wsX11_setValue (wsV RX11 98 RX11 yX11_isCell wsX11_isCell) := goodIn_app (goodIn_of _ (by decide +kernel)) ggX11_setValue_X11_isCell
set_option maxRecDepth 20000 in
theorem ggX11_setValue_X11_in : GoodIn wsX11_setValue wsX11_in := goodIn_r _ [9] (by decide +kernel) (by decide +kernel)
set_option maxRecDepth 20000 in
theorem gX11_setValue_X11_in : GoodIn wsX11_setValue (va_wsS RX11 90 yX11_in wsX11_in) := goodIn_app (goodIn_of _ (by decide +kernel)) ggX11_setValue_X11_in
set_option maxRecDepth 20000 in
theorem ggX11_setValue_X11_fails : GoodIn wsX11_setValue wsX11_fails := goodIn_r _ [17, 18, 32, 33, 34, 35, 36, 37, 38, 39, 40, 41, 42, 43, 44, 45, 46, 47, 48, 49, 50, 51] (by decide +kernel) (by decide +kernel)
set_option maxRecDepth 20000 in
theorem gX11_setValue_X11_fails : GoodIn wsX11_setValue (wsV RX11 171 RX11 yX11_fails wsX11_fails) := goodIn_app (goodIn_of _ (by decide +kernel)) ggX11_setValue_X11_fails
set_option maxRecDepth 20000 in
theorem ggX11_setValue_X11_remember : GoodIn wsX11_setValue wsX11_remember := goodIn_r _ [22, 23, 24, 25, 26, 5, 27, 1, 32, 33, 34, 35, 36, 37, 38, 39, 40, 41, 42, 43, 44, 45, 46, 47, 48, 49, 50, 51] (by decide +kernel) (by decide +kernel)
set_option maxRecDepth 20000 in
theorem gX11_setValue_X11_remember : GoodIn wsX11_setValue (wsV RX11 262 RX11 yX11_remember wsX11_remember) := goodIn_app (goodIn_of _ (by decide +kernel)) ggX11_setValue_X11_remember
set_option maxRecDepth 20000 in
theorem ggX11_setValue_X11_valueOf : GoodIn wsX11_setValue wsX11_valueOf := goodIn_r _ [31, 1, 32, 33, 34, 35, 36, 37, 38, 39, 40, 41, 42, 43, 44, 45, 46, 47, 48, 49, 50, 51] (by decide +kernel) (by decide +kernel)
set_option maxRecDepth 20000 in
theorem gX11_setValue_X11_valueOf : GoodIn wsX11_setValue (wsV RX11 105 RX11 yX11_valueOf wsX11_valueOf) := goodIn_app (goodIn_of _ (by decide +kernel)) ggX11_setValue_X11_valueOf
theorem dX11_setValue_0 : decode cX11_setValue 0 = .ok (.aload_n 0, 1) := by decide +kernel
theorem dX11_setValue_1 : decode cX11_setValue 1 = .ok (.aload_n 0, 1) := by decide +kernel
theorem dX11_setValue_2 : decode cX11_setValue 2 = .ok (.iload_n 1, 1) := by decide +kernel
theorem dX11_setValue_3 : decode cX11_setValue 3 = .ok (.invokevirtual 94, 3) := by decide +kernel
theorem dX11_setValue_6 : decode cX11_setValue 6 = .ok (.ifCond .eq 11, 3) := by decide +kernel
theorem dX11_setValue_9 : decode cX11_setValue 9 = .ok (.aload_n 0, 1) := by decide +kernel
theorem dX11_setValue_10 : decode cX11_setValue 10 = .ok (.iload_n 2, 1) := by decide +kernel
theorem dX11_setValue_11 : decode cX11_setValue 11 = .ok (.invokevirtual 98, 3) := by decide +kernel
theorem dX11_setValue_14 : decode cX11_setValue 14 = .ok (.ifCond .ne 7, 3) := by decide +kernel
theorem dX11_setValue_17 : decode cX11_setValue 17 = .ok (.iconst 1, 1) := by decide +kernel
theorem dX11_setValue_18 : decode cX11_setValue 18 = .ok (.goto 4, 3) := by decide +kernel
theorem dX11_setValue_21 : decode cX11_setValue 21 = .ok (.iconst 0, 1) := by decide +kernel
theorem dX11_setValue_22 : decode cX11_setValue 22 = .ok (.iload_n 3, 1) := by decide +kernel
theorem dX11_setValue_23 : decode cX11_setValue 23 = .ok (.iconst 0, 1) := by decide +kernel
theorem dX11_setValue_24 : decode cX11_setValue 24 = .ok (.bipush 9, 2) := by decide +kernel
theorem dX11_setValue_26 : decode cX11_setValue 26 = .ok (.invokestatic 90, 3) := by decide +kernel
theorem dX11_setValue_29 : decode cX11_setValue 29 = .ok (.ifCond .ne 7, 3) := by decide +kernel
theorem dX11_setValue_32 : decode cX11_setValue 32 = .ok (.iconst 1, 1) := by decide +kernel
theorem dX11_setValue_33 : decode cX11_setValue 33 = .ok (.goto 4, 3) := by decide +kernel
theorem dX11_setValue_36 : decode cX11_setValue 36 = .ok (.iconst 0, 1) := by decide +kernel
theorem dX11_setValue_37 : decode cX11_setValue 37 = .ok (.iconst 0, 1) := by decide +kernel
theorem dX11_setValue_38 : decode cX11_setValue 38 = .ok (.invokevirtual 171, 3) := by decide +kernel
theorem dX11_setValue_41 : decode cX11_setValue 41 = .ok (.ifCond .eq 5, 3) := by decide +kernel
theorem dX11_setValue_44 : decode cX11_setValue 44 = .ok (.iconst 0, 1) := by decide +kernel
theorem dX11_setValue_45 : decode cX11_setValue 45 = .ok (.ireturn, 1) := by decide +kernel
theorem dX11_setValue_46 : decode cX11_setValue 46 = .ok (.aload_n 0, 1) := by decide +kernel
theorem dX11_setValue_47 : decode cX11_setValue 47 = .ok (.iconst 0, 1) := by decide +kernel
theorem dX11_setValue_48 : decode cX11_setValue 48 = .ok (.invokevirtual 262, 3) := by decide +kernel
theorem dX11_setValue_51 : decode cX11_setValue 51 = .ok (.aload_n 0, 1) := by decide +kernel
theorem dX11_setValue_52 : decode cX11_setValue 52 = .ok (.iload_n 1, 1) := by decide +kernel
theorem dX11_setValue_53 : decode cX11_setValue 53 = .ok (.iload_n 2, 1) := by decide +kernel
theorem dX11_setValue_54 : decode cX11_setValue 54 = .ok (.invokevirtual 105, 3) := by decide +kernel
theorem dX11_setValue_57 : decode cX11_setValue 57 = .ok (.istore 4, 2) := by decide +kernel
theorem dX11_setValue_59 : decode cX11_setValue 59 = .ok (.aload_n 0, 1) := by decide +kernel
theorem dX11_setValue_60 : decode cX11_setValue 60 = .ok (.getfield 13, 3) := by decide +kernel
theorem dX11_setValue_63 : decode cX11_setValue 63 = .ok (.bipush 26, 2) := by decide +kernel
theorem dX11_setValue_65 : decode cX11_setValue 65 = .ok (.iload_n 1, 1) := by decide +kernel
theorem dX11_setValue_66 : decode cX11_setValue 66 = .ok (.bipush 31, 2) := by decide +kernel
theorem dX11_setValue_68 : decode cX11_setValue 68 = .ok (.imul, 1) := by decide +kernel
theorem dX11_setValue_69 : decode cX11_setValue 69 = .ok (.iadd, 1) := by decide +kernel
theorem dX11_setValue_70 : decode cX11_setValue 70 = .ok (.bipush 7, 2) := by decide +kernel
theorem dX11_setValue_72 : decode cX11_setValue 72 = .ok (.iadd, 1) := by decide +kernel
theorem dX11_setValue_73 : decode cX11_setValue 73 = .ok (.iload_n 2, 1) := by decide +kernel
theorem dX11_setValue_74 : decode cX11_setValue 74 = .ok (.iadd, 1) := by decide +kernel
theorem dX11_setValue_75 : decode cX11_setValue 75 = .ok (.iload_n 3, 1) := by decide +kernel
theorem dX11_setValue_76 : decode cX11_setValue 76 = .ok (.iastore, 1) := by decide +kernel
theorem dX11_setValue_77 : decode cX11_setValue 77 = .ok (.iload 4, 2) := by decide +kernel
theorem dX11_setValue_79 : decode cX11_setValue 79 = .ok (.ireturn, 1) := by decide +kernel
set_option maxRecDepth 20000 in
theorem ggX11_divideAndChoose_X11_areSiblings : GoodIn wsX11_divideAndChoose wsX11_areSiblings := goodIn_r _ [5, 6, 7, 8, 4, 9, 10, 11, 12, 13, 52, 53, 54, 55, 56, 57, 58, 59, 60, 61, 62, 63, 64, 65, 66, 67, 68, 69, 70, 71] (by decide +kernel) (by decide +kernel)
set_option maxRecDepth 20000 in
theorem gX11_divideAndChoose_X11_areSiblings : GoodIn wsX11_divideAndChoose (wsV RX11 276 RX11 yX11_areSiblings wsX11_areSiblings) := goodIn_app (goodIn_of _ (by decide +kernel)) ggX11_divideAndChoose_X11_areSiblings
set_option maxRecDepth 20000 in
theorem ggX11_divideAndChoose_X11_fails : GoodIn wsX11_divideAndChoose wsX11_fails := goodIn_r _ [17, 18, 52, 53, 54, 55, 56, 57, 58, 59, 60, 61, 62, 63, 64, 65, 66, 67, 68, 69, 70, 71] (by decide +kernel) (by decide +kernel)
set_option maxRecDepth 20000 in
theorem gX11_divideAndChoose_X11_fails : GoodIn wsX11_divideAndChoose (wsV RX11 171 RX11 yX11_fails wsX11_fails) := goodIn_app (goodIn_of _ (by decide +kernel)) ggX11_divideAndChoose_X11_fails
set_option maxRecDepth 20000 in
theorem ggX11_divideAndChoose_X11_remember : GoodIn wsX11_divideAndChoose wsX11_remember := goodIn_r _ [22, 23, 24, 25, 26, 4, 27, 10, 52, 53, 54, 55, 56, 57, 58, 59, 60, 61, 62, 63, 64, 65, 66, 67, 68, 69, 70, 71] (by decide +kernel) (by decide +kernel)
set_option maxRecDepth 20000 in
theorem gX11_divideAndChoose_X11_remember : GoodIn wsX11_divideAndChoose (wsV RX11 262 RX11 yX11_remember wsX11_remember) := goodIn_app (goodIn_of _ (by decide +kernel)) ggX11_divideAndChoose_X11_remember
set_option maxRecDepth 20000 in
theorem ggX11_divideAndChoose_X11_divide : GoodIn wsX11_divideAndChoose wsX11_divide := goodIn_r _ [31, 10, 32, 33, 34, 4, 35, 36, 37, 38, 39, 40, 41, 42, 43, 44, 45, 46, 47, 48, 49, 50, 51, 52, 53, 54, 55, 56, 57, 58, 59, 60, 61, 62, 63, 64, 65, 66, 67, 68, 69, 70, 71] (by decide +kernel) (by decide +kernel)
set_option maxRecDepth 20000 in
theorem gX11_divideAndChoose_X11_divide : GoodIn wsX11_divideAndChoose (wsV RX11 250 RX11 yX11_divide wsX11_divide) := goodIn_app (goodIn_of _ (by decide +kernel)) ggX11_divideAndChoose_X11_divide
theorem dX11_divideAndChoose_0 : decode cX11_divideAndChoose 0 = .ok (.aload_n 0, 1) := by decide +kernel
theorem dX11_divideAndChoose_1 : decode cX11_divideAndChoose 1 = .ok (.aload_n 0, 1) := by decide +kernel
theorem dX11_divideAndChoose_2 : decode cX11_divideAndChoose 2 = .ok (.iload_n 1, 1) := by decide +kernel
theorem dX11_divideAndChoose_3 : decode cX11_divideAndChoose 3 = .ok (.iload_n 2, 1) := by decide +kernel
theorem dX11_divideAndChoose_4 : decode cX11_divideAndChoose 4 = .ok (.invokevirtual 276, 3) := by decide +kernel
theorem dX11_divideAndChoose_7 : decode cX11_divideAndChoose 7 = .ok (.ifCond .ne 7, 3) := by decide +kernel
theorem dX11_divideAndChoose_10 : decode cX11_divideAndChoose 10 = .ok (.iconst 1, 1) := by decide +kernel
theorem dX11_divideAndChoose_11 : decode cX11_divideAndChoose 11 = .ok (.goto 4, 3) := by decide +kernel
theorem dX11_divideAndChoose_14 : decode cX11_divideAndChoose 14 = .ok (.iconst 0, 1) := by decide +kernel
theorem dX11_divideAndChoose_15 : decode cX11_divideAndChoose 15 = .ok (.iload_n 1, 1) := by decide +kernel
theorem dX11_divideAndChoose_16 : decode cX11_divideAndChoose 16 = .ok (.iload_n 2, 1) := by decide +kernel
theorem dX11_divideAndChoose_17 : decode cX11_divideAndChoose 17 = .ok (.if_icmp .ne 7, 3) := by decide +kernel
theorem dX11_divideAndChoose_20 : decode cX11_divideAndChoose 20 = .ok (.iconst 1, 1) := by decide +kernel
theorem dX11_divideAndChoose_21 : decode cX11_divideAndChoose 21 = .ok (.goto 4, 3) := by decide +kernel
theorem dX11_divideAndChoose_24 : decode cX11_divideAndChoose 24 = .ok (.iconst 0, 1) := by decide +kernel
theorem dX11_divideAndChoose_25 : decode cX11_divideAndChoose 25 = .ok (.iconst 0, 1) := by decide +kernel
theorem dX11_divideAndChoose_26 : decode cX11_divideAndChoose 26 = .ok (.invokevirtual 171, 3) := by decide +kernel
theorem dX11_divideAndChoose_29 : decode cX11_divideAndChoose 29 = .ok (.ifCond .eq 5, 3) := by decide +kernel
theorem dX11_divideAndChoose_32 : decode cX11_divideAndChoose 32 = .ok (.iconst 0, 1) := by decide +kernel
theorem dX11_divideAndChoose_33 : decode cX11_divideAndChoose 33 = .ok (.ireturn, 1) := by decide +kernel
theorem dX11_divideAndChoose_34 : decode cX11_divideAndChoose 34 = .ok (.aload_n 0, 1) := by decide +kernel
theorem dX11_divideAndChoose_35 : decode cX11_divideAndChoose 35 = .ok (.iconst 0, 1) := by decide +kernel
theorem dX11_divideAndChoose_36 : decode cX11_divideAndChoose 36 = .ok (.invokevirtual 262, 3) := by decide +kernel
theorem dX11_divideAndChoose_39 : decode cX11_divideAndChoose 39 = .ok (.aload_n 0, 1) := by decide +kernel
theorem dX11_divideAndChoose_40 : decode cX11_divideAndChoose 40 = .ok (.iload_n 1, 1) := by decide +kernel
theorem dX11_divideAndChoose_41 : decode cX11_divideAndChoose 41 = .ok (.iload_n 2, 1) := by decide +kernel
theorem dX11_divideAndChoose_42 : decode cX11_divideAndChoose 42 = .ok (.invokevirtual 250, 3) := by decide +kernel
theorem dX11_divideAndChoose_45 : decode cX11_divideAndChoose 45 = .ok (.ireturn, 1) := by decide +kernel
set_option maxRecDepth 20000 in
theorem ggX11_movingKnife_X11_remember : GoodIn wsX11_movingKnife wsX11_remember := goodIn_r _ [6, 7, 8, 9, 10, 5, 11, 12, 62, 63, 64, 65, 66, 67, 68, 69, 70, 71, 72, 73, 74, 75, 76, 77, 78, 79, 80, 81] (by decide +kernel) (by decide +kernel)
set_option maxRecDepth 20000 in
theorem gX11_movingKnife_X11_remember : GoodIn wsX11_movingKnife (wsV RX11 262 RX11 yX11_remember wsX11_remember) := goodIn_app (goodIn_of _ (by decide +kernel)) ggX11_movingKnife_X11_remember
set_option maxRecDepth 20000 in
theorem ggX11_movingKnife_X11_knife : GoodIn wsX11_movingKnife wsX11_knife := goodIn_r _ [16, 17, 12, 18, 19, 20, 5, 21, 22, 23, 24, 25, 26, 27, 28, 29, 30, 31, 32, 33, 34, 35, 36, 37, 38, 39, 40, 41, 42, 43, 44, 45, 46, 47, 48, 49, 50, 51, 52, 53, 54, 55, 56, 57, 58, 59, 60, 61, 62, 63, 64, 65, 66, 67, 68, 69, 70, 71, 72, 73, 74, 75, 76, 77, 78, 79, 80, 81] (by decide +kernel) (by decide +kernel)
set_option maxRecDepth 20000 in
theorem gX11_movingKnife_X11_knife : GoodIn wsX11_movingKnife (wsV RX11 252 RX11 yX11_knife wsX11_knife) := goodIn_app (goodIn_of _ (by decide +kernel)) ggX11_movingKnife_X11_knife
theorem dX11_movingKnife_0 : decode cX11_movingKnife 0 = .ok (.aload_n 0, 1) := by decide +kernel
theorem dX11_movingKnife_1 : decode cX11_movingKnife 1 = .ok (.iconst 0, 1) := by decide +kernel
theorem dX11_movingKnife_2 : decode cX11_movingKnife 2 = .ok (.putfield 1, 3) := by decide +kernel
theorem dX11_movingKnife_5 : decode cX11_movingKnife 5 = .ok (.aload_n 0, 1) := by decide +kernel
theorem dX11_movingKnife_6 : decode cX11_movingKnife 6 = .ok (.iconst 0, 1) := by decide +kernel
theorem dX11_movingKnife_7 : decode cX11_movingKnife 7 = .ok (.invokevirtual 262, 3) := by decide +kernel
theorem dX11_movingKnife_10 : decode cX11_movingKnife 10 = .ok (.aload_n 0, 1) := by decide +kernel
theorem dX11_movingKnife_11 : decode cX11_movingKnife 11 = .ok (.invokevirtual 252, 3) := by decide +kernel
theorem dX11_movingKnife_14 : decode cX11_movingKnife 14 = .ok (.ireturn, 1) := by decide +kernel
set_option maxRecDepth 20000 in
theorem ggX11_roundRobin_X11_isSibling : GoodIn wsX11_roundRobin wsX11_isSibling := goodIn_r _ [5, 6, 7, 8, 4, 9, 40, 41, 42, 43, 44, 45, 46, 47, 48, 49, 50, 51, 52, 53, 54, 55, 56, 57, 58, 59] (by decide +kernel) (by decide +kernel)
set_option maxRecDepth 20000 in
theorem gX11_roundRobin_X11_isSibling : GoodIn wsX11_roundRobin (wsV RX11 94 RX11 yX11_isSibling wsX11_isSibling) := goodIn_app (goodIn_of _ (by decide +kernel)) ggX11_roundRobin_X11_isSibling
set_option maxRecDepth 20000 in
theorem ggX11_roundRobin_X11_fails : GoodIn wsX11_roundRobin wsX11_fails := goodIn_r _ [13, 14, 40, 41, 42, 43, 44, 45, 46, 47, 48, 49, 50, 51, 52, 53, 54, 55, 56, 57, 58, 59] (by decide +kernel) (by decide +kernel)
set_option maxRecDepth 20000 in
theorem gX11_roundRobin_X11_fails : GoodIn wsX11_roundRobin (wsV RX11 171 RX11 yX11_fails wsX11_fails) := goodIn_app (goodIn_of _ (by decide +kernel)) ggX11_roundRobin_X11_fails
set_option maxRecDepth 20000 in
theorem ggX11_roundRobin_X11_remember : GoodIn wsX11_roundRobin wsX11_remember := goodIn_r _ [18, 19, 20, 21, 22, 4, 23, 6, 40, 41, 42, 43, 44, 45, 46, 47, 48, 49, 50, 51, 52, 53, 54, 55, 56, 57, 58, 59] (by decide +kernel) (by decide +kernel)
set_option maxRecDepth 20000 in
theorem gX11_roundRobin_X11_remember : GoodIn wsX11_roundRobin (wsV RX11 262 RX11 yX11_remember wsX11_remember) := goodIn_app (goodIn_of _ (by decide +kernel)) ggX11_roundRobin_X11_remember
set_option maxRecDepth 20000 in
theorem ggX11_roundRobin_X11_robin : GoodIn wsX11_roundRobin wsX11_robin := goodIn_r _ [27, 6, 28, 29, 30, 4, 31, 32, 33, 34, 35, 36, 37, 38, 39, 40, 41, 42, 43, 44, 45, 46, 47, 48, 49, 50, 51, 52, 53, 54, 55, 56, 57, 58, 59] (by decide +kernel) (by decide +kernel)
set_option maxRecDepth 20000 in
theorem gX11_roundRobin_X11_robin : GoodIn wsX11_roundRobin (wsV RX11 254 RX11 yX11_robin wsX11_robin) := goodIn_app (goodIn_of _ (by decide +kernel)) ggX11_roundRobin_X11_robin
theorem dX11_roundRobin_0 : decode cX11_roundRobin 0 = .ok (.aload_n 0, 1) := by decide +kernel
theorem dX11_roundRobin_1 : decode cX11_roundRobin 1 = .ok (.aload_n 0, 1) := by decide +kernel
theorem dX11_roundRobin_2 : decode cX11_roundRobin 2 = .ok (.iload_n 1, 1) := by decide +kernel
theorem dX11_roundRobin_3 : decode cX11_roundRobin 3 = .ok (.invokevirtual 94, 3) := by decide +kernel
theorem dX11_roundRobin_6 : decode cX11_roundRobin 6 = .ok (.ifCond .ne 7, 3) := by decide +kernel
theorem dX11_roundRobin_9 : decode cX11_roundRobin 9 = .ok (.iconst 1, 1) := by decide +kernel
theorem dX11_roundRobin_10 : decode cX11_roundRobin 10 = .ok (.goto 4, 3) := by decide +kernel
theorem dX11_roundRobin_13 : decode cX11_roundRobin 13 = .ok (.iconst 0, 1) := by decide +kernel
theorem dX11_roundRobin_14 : decode cX11_roundRobin 14 = .ok (.iconst 0, 1) := by decide +kernel
theorem dX11_roundRobin_15 : decode cX11_roundRobin 15 = .ok (.iconst 0, 1) := by decide +kernel
theorem dX11_roundRobin_16 : decode cX11_roundRobin 16 = .ok (.invokevirtual 171, 3) := by decide +kernel
theorem dX11_roundRobin_19 : decode cX11_roundRobin 19 = .ok (.ifCond .eq 5, 3) := by decide +kernel
theorem dX11_roundRobin_22 : decode cX11_roundRobin 22 = .ok (.iconst 0, 1) := by decide +kernel
theorem dX11_roundRobin_23 : decode cX11_roundRobin 23 = .ok (.ireturn, 1) := by decide +kernel
theorem dX11_roundRobin_24 : decode cX11_roundRobin 24 = .ok (.aload_n 0, 1) := by decide +kernel
theorem dX11_roundRobin_25 : decode cX11_roundRobin 25 = .ok (.iconst 0, 1) := by decide +kernel
theorem dX11_roundRobin_26 : decode cX11_roundRobin 26 = .ok (.invokevirtual 262, 3) := by decide +kernel
theorem dX11_roundRobin_29 : decode cX11_roundRobin 29 = .ok (.aload_n 0, 1) := by decide +kernel
theorem dX11_roundRobin_30 : decode cX11_roundRobin 30 = .ok (.iload_n 1, 1) := by decide +kernel
theorem dX11_roundRobin_31 : decode cX11_roundRobin 31 = .ok (.invokevirtual 254, 3) := by decide +kernel
theorem dX11_roundRobin_34 : decode cX11_roundRobin 34 = .ok (.ireturn, 1) := by decide +kernel
set_option maxRecDepth 20000 in
theorem ggX11_rotate_X11_isSibling : GoodIn wsX11_rotate wsX11_isSibling := goodIn_r _ [5, 6, 7, 8, 4, 9, 58, 59, 60, 61, 62, 63, 64, 65, 66, 67, 68, 69, 70, 71, 72, 73, 74, 75, 76, 77] (by decide +kernel) (by decide +kernel)
set_option maxRecDepth 20000 in
theorem gX11_rotate_X11_isSibling : GoodIn wsX11_rotate (wsV RX11 94 RX11 yX11_isSibling wsX11_isSibling) := goodIn_app (goodIn_of _ (by decide +kernel)) ggX11_rotate_X11_isSibling
set_option maxRecDepth 20000 in
theorem ggX11_rotate_X11_findCycle : GoodIn wsX11_rotate wsX11_findCycle := goodIn_r _ [13, 14, 15, 16, 17, 18, 4, 19, 6, 20, 21, 22, 23, 24, 25, 26, 27, 28, 29, 30, 31, 32, 33, 34, 35, 36, 37, 38, 39, 58, 59, 60, 61, 62, 63, 64, 65, 66, 67, 68, 69, 70, 71, 72, 73, 74, 75, 76, 77] (by decide +kernel) (by decide +kernel)
set_option maxRecDepth 20000 in
theorem gX11_rotate_X11_findCycle : GoodIn wsX11_rotate (wsV RX11 156 RX11 yX11_findCycle wsX11_findCycle) := goodIn_app (goodIn_of _ (by decide +kernel)) ggX11_rotate_X11_findCycle
set_option maxRecDepth 20000 in
theorem ggX11_rotate_X11_fails : GoodIn wsX11_rotate wsX11_fails := goodIn_r _ [43, 44, 58, 59, 60, 61, 62, 63, 64, 65, 66, 67, 68, 69, 70, 71, 72, 73, 74, 75, 76, 77] (by decide +kernel) (by decide +kernel)
set_option maxRecDepth 20000 in
theorem gX11_rotate_X11_fails : GoodIn wsX11_rotate (wsV RX11 171 RX11 yX11_fails wsX11_fails) := goodIn_app (goodIn_of _ (by decide +kernel)) ggX11_rotate_X11_fails
set_option maxRecDepth 20000 in
theorem ggX11_rotate_X11_remember : GoodIn wsX11_rotate wsX11_remember := goodIn_r _ [48, 49, 50, 51, 52, 4, 53, 6, 58, 59, 60, 61, 62, 63, 64, 65, 66, 67, 68, 69, 70, 71, 72, 73, 74, 75, 76, 77] (by decide +kernel) (by decide +kernel)
set_option maxRecDepth 20000 in
theorem gX11_rotate_X11_remember : GoodIn wsX11_rotate (wsV RX11 262 RX11 yX11_remember wsX11_remember) := goodIn_app (goodIn_of _ (by decide +kernel)) ggX11_rotate_X11_remember
set_option maxRecDepth 20000 in
theorem ggX11_rotate_X11_turnCycle : GoodIn wsX11_rotate wsX11_turnCycle := goodIn_r _ [57, 6, 15, 10, 11, 12, 4, 13, 14, 16, 17, 18, 19, 20, 21, 22, 23, 24, 25, 26, 27, 28, 29, 30, 31, 32, 33, 34, 35, 36, 37, 38, 39, 58, 59, 60, 61, 62, 63, 64, 65, 66, 67, 68, 69, 70, 71, 72, 73, 74, 75, 76, 77] (by decide +kernel) (by decide +kernel)
set_option maxRecDepth 20000 in
theorem gX11_rotate_X11_turnCycle : GoodIn wsX11_rotate (wsV RX11 256 RX11 yX11_turnCycle wsX11_turnCycle) := goodIn_app (goodIn_of _ (by decide +kernel)) ggX11_rotate_X11_turnCycle
theorem dX11_rotate_0 : decode cX11_rotate 0 = .ok (.aload_n 0, 1) := by decide +kernel
theorem dX11_rotate_1 : decode cX11_rotate 1 = .ok (.iload_n 1, 1) := by decide +kernel
theorem dX11_rotate_2 : decode cX11_rotate 2 = .ok (.invokevirtual 94, 3) := by decide +kernel
theorem dX11_rotate_5 : decode cX11_rotate 5 = .ok (.istore_n 2, 1) := by decide +kernel
theorem dX11_rotate_6 : decode cX11_rotate 6 = .ok (.aload_n 0, 1) := by decide +kernel
theorem dX11_rotate_7 : decode cX11_rotate 7 = .ok (.iload_n 2, 1) := by decide +kernel
theorem dX11_rotate_8 : decode cX11_rotate 8 = .ok (.ifCond .ne 7, 3) := by decide +kernel
theorem dX11_rotate_11 : decode cX11_rotate 11 = .ok (.iconst 1, 1) := by decide +kernel
theorem dX11_rotate_12 : decode cX11_rotate 12 = .ok (.goto 4, 3) := by decide +kernel
theorem dX11_rotate_15 : decode cX11_rotate 15 = .ok (.iconst 0, 1) := by decide +kernel
theorem dX11_rotate_16 : decode cX11_rotate 16 = .ok (.iload_n 2, 1) := by decide +kernel
theorem dX11_rotate_17 : decode cX11_rotate 17 = .ok (.ifCond .eq 16, 3) := by decide +kernel
theorem dX11_rotate_20 : decode cX11_rotate 20 = .ok (.aload_n 0, 1) := by decide +kernel
theorem dX11_rotate_21 : decode cX11_rotate 21 = .ok (.iload_n 1, 1) := by decide +kernel
theorem dX11_rotate_22 : decode cX11_rotate 22 = .ok (.invokevirtual 156, 3) := by decide +kernel
theorem dX11_rotate_25 : decode cX11_rotate 25 = .ok (.iconst (-1), 1) := by decide +kernel
theorem dX11_rotate_26 : decode cX11_rotate 26 = .ok (.if_icmp .ne 7, 3) := by decide +kernel
theorem dX11_rotate_29 : decode cX11_rotate 29 = .ok (.iconst 1, 1) := by decide +kernel
theorem dX11_rotate_30 : decode cX11_rotate 30 = .ok (.goto 4, 3) := by decide +kernel
theorem dX11_rotate_33 : decode cX11_rotate 33 = .ok (.iconst 0, 1) := by decide +kernel
theorem dX11_rotate_34 : decode cX11_rotate 34 = .ok (.iconst 0, 1) := by decide +kernel
theorem dX11_rotate_35 : decode cX11_rotate 35 = .ok (.invokevirtual 171, 3) := by decide +kernel
theorem dX11_rotate_38 : decode cX11_rotate 38 = .ok (.ifCond .eq 5, 3) := by decide +kernel
theorem dX11_rotate_41 : decode cX11_rotate 41 = .ok (.iconst 0, 1) := by decide +kernel
theorem dX11_rotate_42 : decode cX11_rotate 42 = .ok (.ireturn, 1) := by decide +kernel
theorem dX11_rotate_43 : decode cX11_rotate 43 = .ok (.aload_n 0, 1) := by decide +kernel
theorem dX11_rotate_44 : decode cX11_rotate 44 = .ok (.iconst 0, 1) := by decide +kernel
theorem dX11_rotate_45 : decode cX11_rotate 45 = .ok (.invokevirtual 262, 3) := by decide +kernel
theorem dX11_rotate_48 : decode cX11_rotate 48 = .ok (.aload_n 0, 1) := by decide +kernel
theorem dX11_rotate_49 : decode cX11_rotate 49 = .ok (.iload_n 1, 1) := by decide +kernel
theorem dX11_rotate_50 : decode cX11_rotate 50 = .ok (.invokevirtual 256, 3) := by decide +kernel
theorem dX11_rotate_53 : decode cX11_rotate 53 = .ok (.ireturn, 1) := by decide +kernel
set_option maxRecDepth 20000 in
theorem ggX11_undo_X11_fails : GoodIn wsX11_undo wsX11_fails := goodIn_r _ [6, 7, 13, 14, 15, 16, 17, 18, 19, 20, 21, 22, 23, 24, 25, 26, 27, 28, 29, 30, 31, 32] (by decide +kernel) (by decide +kernel)
set_option maxRecDepth 20000 in
theorem gX11_undo_X11_fails : GoodIn wsX11_undo (wsV RX11 171 RX11 yX11_fails wsX11_fails) := goodIn_app (goodIn_of _ (by decide +kernel)) ggX11_undo_X11_fails
set_option maxRecDepth 20000 in
theorem ggX11_undo_X11_copyBlock : GoodIn wsX11_undo wsX11_copyBlock := goodIn_r _ [11, 12, 13, 14, 15, 16, 17, 18, 19, 20, 21, 22, 23, 24, 25, 26, 27, 28, 29, 30, 31, 32] (by decide +kernel) (by decide +kernel)
set_option maxRecDepth 20000 in
theorem gX11_undo_X11_copyBlock : GoodIn wsX11_undo (wsV RX11 101 RX11 yX11_copyBlock wsX11_copyBlock) := goodIn_app (goodIn_of _ (by decide +kernel)) ggX11_undo_X11_copyBlock
theorem dX11_undo_0 : decode cX11_undo 0 = .ok (.aload_n 0, 1) := by decide +kernel
theorem dX11_undo_1 : decode cX11_undo 1 = .ok (.aload_n 0, 1) := by decide +kernel
theorem dX11_undo_2 : decode cX11_undo 2 = .ok (.getfield 21, 3) := by decide +kernel
theorem dX11_undo_5 : decode cX11_undo 5 = .ok (.ifCond .ne 7, 3) := by decide +kernel
theorem dX11_undo_8 : decode cX11_undo 8 = .ok (.iconst 1, 1) := by decide +kernel
theorem dX11_undo_9 : decode cX11_undo 9 = .ok (.goto 4, 3) := by decide +kernel
theorem dX11_undo_12 : decode cX11_undo 12 = .ok (.iconst 0, 1) := by decide +kernel
theorem dX11_undo_13 : decode cX11_undo 13 = .ok (.iconst 0, 1) := by decide +kernel
theorem dX11_undo_14 : decode cX11_undo 14 = .ok (.iconst 0, 1) := by decide +kernel
theorem dX11_undo_15 : decode cX11_undo 15 = .ok (.invokevirtual 171, 3) := by decide +kernel
theorem dX11_undo_18 : decode cX11_undo 18 = .ok (.ifCond .eq 5, 3) := by decide +kernel
theorem dX11_undo_21 : decode cX11_undo 21 = .ok (.iconst 0, 1) := by decide +kernel
theorem dX11_undo_22 : decode cX11_undo 22 = .ok (.ireturn, 1) := by decide +kernel
theorem dX11_undo_23 : decode cX11_undo 23 = .ok (.aload_n 0, 1) := by decide +kernel
theorem dX11_undo_24 : decode cX11_undo 24 = .ok (.aload_n 0, 1) := by decide +kernel
theorem dX11_undo_25 : decode cX11_undo 25 = .ok (.getfield 21, 3) := by decide +kernel
theorem dX11_undo_28 : decode cX11_undo 28 = .ok (.iconst 0, 1) := by decide +kernel
theorem dX11_undo_29 : decode cX11_undo 29 = .ok (.invokevirtual 101, 3) := by decide +kernel
theorem dX11_undo_32 : decode cX11_undo 32 = .ok (.aload_n 0, 1) := by decide +kernel
theorem dX11_undo_33 : decode cX11_undo 33 = .ok (.dup, 1) := by decide +kernel
theorem dX11_undo_34 : decode cX11_undo 34 = .ok (.getfield 21, 3) := by decide +kernel
theorem dX11_undo_37 : decode cX11_undo 37 = .ok (.iconst 1, 1) := by decide +kernel
theorem dX11_undo_38 : decode cX11_undo 38 = .ok (.isub, 1) := by decide +kernel
theorem dX11_undo_39 : decode cX11_undo 39 = .ok (.putfield 21, 3) := by decide +kernel
theorem dX11_undo_42 : decode cX11_undo 42 = .ok (.aload_n 0, 1) := by decide +kernel
theorem dX11_undo_43 : decode cX11_undo 43 = .ok (.getfield 21, 3) := by decide +kernel
theorem dX11_undo_46 : decode cX11_undo 46 = .ok (.ireturn, 1) := by decide +kernel
set_option maxRecDepth 20000 in
theorem ggX11_save_X11_in : GoodIn wsX11_save wsX11_in := goodIn_r _ [5] (by decide +kernel) (by decide +kernel)
set_option maxRecDepth 20000 in
theorem gX11_save_X11_in : GoodIn wsX11_save (va_wsS RX11 90 yX11_in wsX11_in) := goodIn_app (goodIn_of _ (by decide +kernel)) ggX11_save_X11_in
set_option maxRecDepth 20000 in
theorem ggX11_save_X11_fails : GoodIn wsX11_save wsX11_fails := goodIn_r _ [9, 10, 24, 25, 26, 27, 28, 29, 30, 31, 32, 33, 34, 35, 36, 37, 38, 39, 40, 41, 42, 43] (by decide +kernel) (by decide +kernel)
set_option maxRecDepth 20000 in
theorem gX11_save_X11_fails : GoodIn wsX11_save (wsV RX11 171 RX11 yX11_fails wsX11_fails) := goodIn_app (goodIn_of _ (by decide +kernel)) ggX11_save_X11_fails
set_option maxRecDepth 20000 in
theorem ggX11_save_X11_copyBlock : GoodIn wsX11_save wsX11_copyBlock := goodIn_r _ [14, 15, 24, 25, 26, 27, 28, 29, 30, 31, 32, 33, 34, 35, 36, 37, 38, 39, 40, 41, 42, 43] (by decide +kernel) (by decide +kernel)
set_option maxRecDepth 20000 in
theorem gX11_save_X11_copyBlock : GoodIn wsX11_save (wsV RX11 101 RX11 yX11_copyBlock wsX11_copyBlock) := goodIn_app (goodIn_of _ (by decide +kernel)) ggX11_save_X11_copyBlock
set_option maxRecDepth 20000 in
theorem ggX11_save_X11_sizeOf : GoodIn wsX11_save wsX11_sizeOf := goodIn_r _ [19, 15, 20, 21, 22, 4, 23, 24, 25, 26, 27, 28, 29, 30, 31, 32, 33, 34, 35, 36, 37, 38, 39, 40, 41, 42, 43] (by decide +kernel) (by decide +kernel)
set_option maxRecDepth 20000 in
theorem gX11_save_X11_sizeOf : GoodIn wsX11_save (wsV RX11 279 RX11 yX11_sizeOf wsX11_sizeOf) := goodIn_app (goodIn_of _ (by decide +kernel)) ggX11_save_X11_sizeOf
theorem dX11_save_0 : decode cX11_save 0 = .ok (.aload_n 0, 1) := by decide +kernel
theorem dX11_save_1 : decode cX11_save 1 = .ok (.iload_n 1, 1) := by decide +kernel
theorem dX11_save_2 : decode cX11_save 2 = .ok (.iconst 0, 1) := by decide +kernel
theorem dX11_save_3 : decode cX11_save 3 = .ok (.iconst 1, 1) := by decide +kernel
theorem dX11_save_4 : decode cX11_save 4 = .ok (.invokestatic 90, 3) := by decide +kernel
theorem dX11_save_7 : decode cX11_save 7 = .ok (.ifCond .ne 7, 3) := by decide +kernel
theorem dX11_save_10 : decode cX11_save 10 = .ok (.iconst 1, 1) := by decide +kernel
theorem dX11_save_11 : decode cX11_save 11 = .ok (.goto 4, 3) := by decide +kernel
theorem dX11_save_14 : decode cX11_save 14 = .ok (.iconst 0, 1) := by decide +kernel
theorem dX11_save_15 : decode cX11_save 15 = .ok (.iconst 0, 1) := by decide +kernel
theorem dX11_save_16 : decode cX11_save 16 = .ok (.iconst 0, 1) := by decide +kernel
theorem dX11_save_17 : decode cX11_save 17 = .ok (.invokevirtual 171, 3) := by decide +kernel
theorem dX11_save_20 : decode cX11_save 20 = .ok (.ifCond .eq 5, 3) := by decide +kernel
theorem dX11_save_23 : decode cX11_save 23 = .ok (.iconst 0, 1) := by decide +kernel
theorem dX11_save_24 : decode cX11_save 24 = .ok (.ireturn, 1) := by decide +kernel
theorem dX11_save_25 : decode cX11_save 25 = .ok (.aload_n 0, 1) := by decide +kernel
theorem dX11_save_26 : decode cX11_save 26 = .ok (.iconst 0, 1) := by decide +kernel
theorem dX11_save_27 : decode cX11_save 27 = .ok (.bipush 7, 2) := by decide +kernel
theorem dX11_save_29 : decode cX11_save 29 = .ok (.iload_n 1, 1) := by decide +kernel
theorem dX11_save_30 : decode cX11_save 30 = .ok (.iadd, 1) := by decide +kernel
theorem dX11_save_31 : decode cX11_save 31 = .ok (.invokevirtual 101, 3) := by decide +kernel
theorem dX11_save_34 : decode cX11_save 34 = .ok (.aload_n 0, 1) := by decide +kernel
theorem dX11_save_35 : decode cX11_save 35 = .ok (.getfield 17, 3) := by decide +kernel
theorem dX11_save_38 : decode cX11_save 38 = .ok (.iload_n 1, 1) := by decide +kernel
theorem dX11_save_39 : decode cX11_save 39 = .ok (.iconst 1, 1) := by decide +kernel
theorem dX11_save_40 : decode cX11_save 40 = .ok (.bastore, 1) := by decide +kernel
theorem dX11_save_41 : decode cX11_save 41 = .ok (.aload_n 0, 1) := by decide +kernel
theorem dX11_save_42 : decode cX11_save 42 = .ok (.iconst (-1), 1) := by decide +kernel
theorem dX11_save_43 : decode cX11_save 43 = .ok (.invokevirtual 279, 3) := by decide +kernel
theorem dX11_save_46 : decode cX11_save 46 = .ok (.ireturn, 1) := by decide +kernel
set_option maxRecDepth 20000 in
theorem ggX11_restore_X11_in : GoodIn wsX11_restore wsX11_in := goodIn_r _ [6] (by decide +kernel) (by decide +kernel)
set_option maxRecDepth 20000 in
theorem gX11_restore_X11_in : GoodIn wsX11_restore (va_wsS RX11 90 yX11_in wsX11_in) := goodIn_app (goodIn_of _ (by decide +kernel)) ggX11_restore_X11_in
set_option maxRecDepth 20000 in
theorem ggX11_restore_X11_fails : GoodIn wsX11_restore wsX11_fails := goodIn_r _ [10, 11, 25, 26, 27, 28, 29, 30, 31, 32, 33, 34, 35, 36, 37, 38, 39, 40, 41, 42, 43, 44] (by decide +kernel) (by decide +kernel)
set_option maxRecDepth 20000 in
theorem gX11_restore_X11_fails : GoodIn wsX11_restore (wsV RX11 171 RX11 yX11_fails wsX11_fails) := goodIn_app (goodIn_of _ (by decide +kernel)) ggX11_restore_X11_fails
set_option maxRecDepth 20000 in
theorem ggX11_restore_X11_copyBlock : GoodIn wsX11_restore wsX11_copyBlock := goodIn_r _ [15, 16, 25, 26, 27, 28, 29, 30, 31, 32, 33, 34, 35, 36, 37, 38, 39, 40, 41, 42, 43, 44] (by decide +kernel) (by decide +kernel)
set_option maxRecDepth 20000 in
theorem gX11_restore_X11_copyBlock : GoodIn wsX11_restore (wsV RX11 101 RX11 yX11_copyBlock wsX11_copyBlock) := goodIn_app (goodIn_of _ (by decide +kernel)) ggX11_restore_X11_copyBlock
set_option maxRecDepth 20000 in
theorem ggX11_restore_X11_sizeOf : GoodIn wsX11_restore wsX11_sizeOf := goodIn_r _ [20, 16, 21, 22, 23, 5, 24, 25, 26, 27, 28, 29, 30, 31, 32, 33, 34, 35, 36, 37, 38, 39, 40, 41, 42, 43, 44] (by decide +kernel) (by decide +kernel)
set_option maxRecDepth 20000 in
theorem gX11_restore_X11_sizeOf : GoodIn wsX11_restore (wsV RX11 279 RX11 yX11_sizeOf wsX11_sizeOf) := goodIn_app (goodIn_of _ (by decide +kernel)) ggX11_restore_X11_sizeOf
theorem dX11_restore_0 : decode cX11_restore 0 = .ok (.iload_n 1, 1) := by decide +kernel
theorem dX11_restore_1 : decode cX11_restore 1 = .ok (.iconst 0, 1) := by decide +kernel
theorem dX11_restore_2 : decode cX11_restore 2 = .ok (.iconst 1, 1) := by decide +kernel
theorem dX11_restore_3 : decode cX11_restore 3 = .ok (.invokestatic 90, 3) := by decide +kernel
theorem dX11_restore_6 : decode cX11_restore 6 = .ok (.istore_n 2, 1) := by decide +kernel
theorem dX11_restore_7 : decode cX11_restore 7 = .ok (.aload_n 0, 1) := by decide +kernel
theorem dX11_restore_8 : decode cX11_restore 8 = .ok (.iload_n 2, 1) := by decide +kernel
theorem dX11_restore_9 : decode cX11_restore 9 = .ok (.ifCond .ne 7, 3) := by decide +kernel
theorem dX11_restore_12 : decode cX11_restore 12 = .ok (.iconst 1, 1) := by decide +kernel
theorem dX11_restore_13 : decode cX11_restore 13 = .ok (.goto 4, 3) := by decide +kernel
theorem dX11_restore_16 : decode cX11_restore 16 = .ok (.iconst 0, 1) := by decide +kernel
theorem dX11_restore_17 : decode cX11_restore 17 = .ok (.iload_n 2, 1) := by decide +kernel
theorem dX11_restore_18 : decode cX11_restore 18 = .ok (.ifCond .eq 16, 3) := by decide +kernel
theorem dX11_restore_21 : decode cX11_restore 21 = .ok (.aload_n 0, 1) := by decide +kernel
theorem dX11_restore_22 : decode cX11_restore 22 = .ok (.getfield 17, 3) := by decide +kernel
theorem dX11_restore_25 : decode cX11_restore 25 = .ok (.iload_n 1, 1) := by decide +kernel
theorem dX11_restore_26 : decode cX11_restore 26 = .ok (.baload, 1) := by decide +kernel
theorem dX11_restore_27 : decode cX11_restore 27 = .ok (.ifCond .ne 7, 3) := by decide +kernel
theorem dX11_restore_30 : decode cX11_restore 30 = .ok (.iconst 1, 1) := by decide +kernel
theorem dX11_restore_31 : decode cX11_restore 31 = .ok (.goto 4, 3) := by decide +kernel
theorem dX11_restore_34 : decode cX11_restore 34 = .ok (.iconst 0, 1) := by decide +kernel
theorem dX11_restore_35 : decode cX11_restore 35 = .ok (.iconst 0, 1) := by decide +kernel
theorem dX11_restore_36 : decode cX11_restore 36 = .ok (.invokevirtual 171, 3) := by decide +kernel
theorem dX11_restore_39 : decode cX11_restore 39 = .ok (.ifCond .eq 5, 3) := by decide +kernel
theorem dX11_restore_42 : decode cX11_restore 42 = .ok (.iconst 0, 1) := by decide +kernel
theorem dX11_restore_43 : decode cX11_restore 43 = .ok (.ireturn, 1) := by decide +kernel
theorem dX11_restore_44 : decode cX11_restore 44 = .ok (.aload_n 0, 1) := by decide +kernel
theorem dX11_restore_45 : decode cX11_restore 45 = .ok (.bipush 7, 2) := by decide +kernel
theorem dX11_restore_47 : decode cX11_restore 47 = .ok (.iload_n 1, 1) := by decide +kernel
theorem dX11_restore_48 : decode cX11_restore 48 = .ok (.iadd, 1) := by decide +kernel
theorem dX11_restore_49 : decode cX11_restore 49 = .ok (.iconst 0, 1) := by decide +kernel
theorem dX11_restore_50 : decode cX11_restore 50 = .ok (.invokevirtual 101, 3) := by decide +kernel
theorem dX11_restore_53 : decode cX11_restore 53 = .ok (.aload_n 0, 1) := by decide +kernel
theorem dX11_restore_54 : decode cX11_restore 54 = .ok (.iconst 0, 1) := by decide +kernel
theorem dX11_restore_55 : decode cX11_restore 55 = .ok (.putfield 21, 3) := by decide +kernel
theorem dX11_restore_58 : decode cX11_restore 58 = .ok (.aload_n 0, 1) := by decide +kernel
theorem dX11_restore_59 : decode cX11_restore 59 = .ok (.iconst (-1), 1) := by decide +kernel
theorem dX11_restore_60 : decode cX11_restore 60 = .ok (.invokevirtual 279, 3) := by decide +kernel
theorem dX11_restore_63 : decode cX11_restore 63 = .ok (.ireturn, 1) := by decide +kernel
theorem dX11_put_0 : decode cX11_put 0 = .ok (.aload_n 0, 1) := by decide +kernel
theorem dX11_put_1 : decode cX11_put 1 = .ok (.getfield 36, 3) := by decide +kernel
theorem dX11_put_4 : decode cX11_put 4 = .ok (.aload_n 0, 1) := by decide +kernel
theorem dX11_put_5 : decode cX11_put 5 = .ok (.getfield 39, 3) := by decide +kernel
theorem dX11_put_8 : decode cX11_put 8 = .ok (.iload_n 1, 1) := by decide +kernel
theorem dX11_put_9 : decode cX11_put 9 = .ok (.iastore, 1) := by decide +kernel
theorem dX11_put_10 : decode cX11_put 10 = .ok (.aload_n 0, 1) := by decide +kernel
theorem dX11_put_11 : decode cX11_put 11 = .ok (.dup, 1) := by decide +kernel
theorem dX11_put_12 : decode cX11_put 12 = .ok (.getfield 39, 3) := by decide +kernel
theorem dX11_put_15 : decode cX11_put 15 = .ok (.iconst 1, 1) := by decide +kernel
theorem dX11_put_16 : decode cX11_put 16 = .ok (.iadd, 1) := by decide +kernel
theorem dX11_put_17 : decode cX11_put 17 = .ok (.putfield 39, 3) := by decide +kernel
theorem dX11_put_20 : decode cX11_put 20 = .ok (.return_, 1) := by decide +kernel
set_option maxRecDepth 20000 in
theorem ggX11_putRun_X11_put : GoodIn wsX11_putRun wsX11_put := goodIn_r _ [7, 8, 1, 9, 10, 11, 12, 13, 14, 15, 16, 17, 18, 19, 20, 21, 22, 23, 24, 25, 26, 27, 28] (by decide +kernel) (by decide +kernel)
set_option maxRecDepth 20000 in
theorem gX11_putRun_X11_put : GoodIn wsX11_putRun (wsV RX11 303 RX11 yX11_put wsX11_put) := goodIn_app (goodIn_of _ (by decide +kernel)) ggX11_putRun_X11_put
theorem dX11_putRun_0 : decode cX11_putRun 0 = .ok (.aload_n 0, 1) := by decide +kernel
theorem dX11_putRun_1 : decode cX11_putRun 1 = .ok (.getfield 39, 3) := by decide +kernel
theorem dX11_putRun_4 : decode cX11_putRun 4 = .ok (.ifCond .le 9, 3) := by decide +kernel
theorem dX11_putRun_7 : decode cX11_putRun 7 = .ok (.aload_n 0, 1) := by decide +kernel
theorem dX11_putRun_8 : decode cX11_putRun 8 = .ok (.bipush 32, 2) := by decide +kernel
theorem dX11_putRun_10 : decode cX11_putRun 10 = .ok (.invokevirtual 303, 3) := by decide +kernel
theorem dX11_putRun_13 : decode cX11_putRun 13 = .ok (.iload_n 1, 1) := by decide +kernel
theorem dX11_putRun_14 : decode cX11_putRun 14 = .ok (.bipush 10, 2) := by decide +kernel
theorem dX11_putRun_16 : decode cX11_putRun 16 = .ok (.if_icmp .lt 14, 3) := by decide +kernel
theorem dX11_putRun_19 : decode cX11_putRun 19 = .ok (.aload_n 0, 1) := by decide +kernel
theorem dX11_putRun_20 : decode cX11_putRun 20 = .ok (.bipush 48, 2) := by decide +kernel
theorem dX11_putRun_22 : decode cX11_putRun 22 = .ok (.iload_n 1, 1) := by decide +kernel
theorem dX11_putRun_23 : decode cX11_putRun 23 = .ok (.bipush 10, 2) := by decide +kernel
theorem dX11_putRun_25 : decode cX11_putRun 25 = .ok (.idiv, 1) := by decide +kernel
theorem dX11_putRun_26 : decode cX11_putRun 26 = .ok (.iadd, 1) := by decide +kernel
theorem dX11_putRun_27 : decode cX11_putRun 27 = .ok (.invokevirtual 303, 3) := by decide +kernel
theorem dX11_putRun_30 : decode cX11_putRun 30 = .ok (.aload_n 0, 1) := by decide +kernel
theorem dX11_putRun_31 : decode cX11_putRun 31 = .ok (.bipush 48, 2) := by decide +kernel
theorem dX11_putRun_33 : decode cX11_putRun 33 = .ok (.iload_n 1, 1) := by decide +kernel
theorem dX11_putRun_34 : decode cX11_putRun 34 = .ok (.bipush 10, 2) := by decide +kernel
theorem dX11_putRun_36 : decode cX11_putRun 36 = .ok (.irem, 1) := by decide +kernel
theorem dX11_putRun_37 : decode cX11_putRun 37 = .ok (.iadd, 1) := by decide +kernel
theorem dX11_putRun_38 : decode cX11_putRun 38 = .ok (.invokevirtual 303, 3) := by decide +kernel
theorem dX11_putRun_41 : decode cX11_putRun 41 = .ok (.iload_n 2, 1) := by decide +kernel
theorem dX11_putRun_42 : decode cX11_putRun 42 = .ok (.iconst (-1), 1) := by decide +kernel
theorem dX11_putRun_43 : decode cX11_putRun 43 = .ok (.if_icmp .ne 10, 3) := by decide +kernel
theorem dX11_putRun_46 : decode cX11_putRun 46 = .ok (.aload_n 0, 1) := by decide +kernel
theorem dX11_putRun_47 : decode cX11_putRun 47 = .ok (.bipush 45, 2) := by decide +kernel
theorem dX11_putRun_49 : decode cX11_putRun 49 = .ok (.invokevirtual 303, 3) := by decide +kernel
theorem dX11_putRun_52 : decode cX11_putRun 52 = .ok (.return_, 1) := by decide +kernel
theorem dX11_putRun_53 : decode cX11_putRun 53 = .ok (.bipush 26, 2) := by decide +kernel
theorem dX11_putRun_55 : decode cX11_putRun 55 = .ok (.iload_n 2, 1) := by decide +kernel
theorem dX11_putRun_56 : decode cX11_putRun 56 = .ok (.bipush 31, 2) := by decide +kernel
theorem dX11_putRun_58 : decode cX11_putRun 58 = .ok (.imul, 1) := by decide +kernel
theorem dX11_putRun_59 : decode cX11_putRun 59 = .ok (.iadd, 1) := by decide +kernel
theorem dX11_putRun_60 : decode cX11_putRun 60 = .ok (.istore_n 3, 1) := by decide +kernel
theorem dX11_putRun_61 : decode cX11_putRun 61 = .ok (.iconst 0, 1) := by decide +kernel
theorem dX11_putRun_62 : decode cX11_putRun 62 = .ok (.istore 4, 2) := by decide +kernel
theorem dX11_putRun_64 : decode cX11_putRun 64 = .ok (.iload 4, 2) := by decide +kernel
theorem dX11_putRun_66 : decode cX11_putRun 66 = .ok (.aload_n 0, 1) := by decide +kernel
theorem dX11_putRun_67 : decode cX11_putRun 67 = .ok (.getfield 13, 3) := by decide +kernel
theorem dX11_putRun_70 : decode cX11_putRun 70 = .ok (.iload_n 3, 1) := by decide +kernel
theorem dX11_putRun_71 : decode cX11_putRun 71 = .ok (.iaload, 1) := by decide +kernel
theorem dX11_putRun_72 : decode cX11_putRun 72 = .ok (.if_icmp .ge 24, 3) := by decide +kernel
theorem dX11_putRun_75 : decode cX11_putRun 75 = .ok (.aload_n 0, 1) := by decide +kernel
theorem dX11_putRun_76 : decode cX11_putRun 76 = .ok (.aload_n 0, 1) := by decide +kernel
theorem dX11_putRun_77 : decode cX11_putRun 77 = .ok (.getfield 13, 3) := by decide +kernel
theorem dX11_putRun_80 : decode cX11_putRun 80 = .ok (.iload_n 3, 1) := by decide +kernel
theorem dX11_putRun_81 : decode cX11_putRun 81 = .ok (.iconst 1, 1) := by decide +kernel
theorem dX11_putRun_82 : decode cX11_putRun 82 = .ok (.iadd, 1) := by decide +kernel
theorem dX11_putRun_83 : decode cX11_putRun 83 = .ok (.iload 4, 2) := by decide +kernel
theorem dX11_putRun_85 : decode cX11_putRun 85 = .ok (.iadd, 1) := by decide +kernel
theorem dX11_putRun_86 : decode cX11_putRun 86 = .ok (.iaload, 1) := by decide +kernel
theorem dX11_putRun_87 : decode cX11_putRun 87 = .ok (.invokevirtual 303, 3) := by decide +kernel
theorem dX11_putRun_90 : decode cX11_putRun 90 = .ok (.iinc 4 1, 3) := by decide +kernel
theorem dX11_putRun_93 : decode cX11_putRun 93 = .ok (.goto (-29), 3) := by decide +kernel
theorem dX11_putRun_96 : decode cX11_putRun 96 = .ok (.return_, 1) := by decide +kernel
set_option maxRecDepth 20000 in
theorem ggX11_writeOwners_X11_ownerOf : GoodIn wsX11_writeOwners wsX11_ownerOf := goodIn_r _ [8, 3, 18, 19, 20, 21, 22, 23, 24, 25, 26, 27, 28, 29, 30, 31, 32, 33, 34, 35, 36, 37] (by decide +kernel) (by decide +kernel)
set_option maxRecDepth 20000 in
theorem gX11_writeOwners_X11_ownerOf : GoodIn wsX11_writeOwners (wsV RX11 113 RX11 yX11_ownerOf wsX11_ownerOf) := goodIn_app (goodIn_of _ (by decide +kernel)) ggX11_writeOwners_X11_ownerOf
set_option maxRecDepth 20000 in
theorem ggX11_writeOwners_X11_putRun : GoodIn wsX11_writeOwners wsX11_putRun := goodIn_r _ [12, 2, 3, 13, 14, 15, 7, 16, 17, 18, 19, 20, 21, 22, 23, 24, 25, 26, 27, 28, 29, 30, 31, 32, 33, 34, 35, 36, 37] (by decide +kernel) (by decide +kernel)
set_option maxRecDepth 20000 in
theorem gX11_writeOwners_X11_putRun : GoodIn wsX11_writeOwners (wsV RX11 306 RX11 yX11_putRun wsX11_putRun) := goodIn_app (goodIn_of _ (by decide +kernel)) ggX11_writeOwners_X11_putRun
theorem dX11_writeOwners_0 : decode cX11_writeOwners 0 = .ok (.aload_n 0, 1) := by decide +kernel
theorem dX11_writeOwners_1 : decode cX11_writeOwners 1 = .ok (.iconst 0, 1) := by decide +kernel
theorem dX11_writeOwners_2 : decode cX11_writeOwners 2 = .ok (.putfield 1, 3) := by decide +kernel
theorem dX11_writeOwners_5 : decode cX11_writeOwners 5 = .ok (.aload_n 0, 1) := by decide +kernel
theorem dX11_writeOwners_6 : decode cX11_writeOwners 6 = .ok (.iconst 0, 1) := by decide +kernel
theorem dX11_writeOwners_7 : decode cX11_writeOwners 7 = .ok (.putfield 39, 3) := by decide +kernel
theorem dX11_writeOwners_10 : decode cX11_writeOwners 10 = .ok (.iconst 0, 1) := by decide +kernel
theorem dX11_writeOwners_11 : decode cX11_writeOwners 11 = .ok (.istore_n 1, 1) := by decide +kernel
theorem dX11_writeOwners_12 : decode cX11_writeOwners 12 = .ok (.iconst 1, 1) := by decide +kernel
theorem dX11_writeOwners_13 : decode cX11_writeOwners 13 = .ok (.istore_n 2, 1) := by decide +kernel
theorem dX11_writeOwners_14 : decode cX11_writeOwners 14 = .ok (.iload_n 2, 1) := by decide +kernel
theorem dX11_writeOwners_15 : decode cX11_writeOwners 15 = .ok (.aload_n 0, 1) := by decide +kernel
theorem dX11_writeOwners_16 : decode cX11_writeOwners 16 = .ok (.getfield 13, 3) := by decide +kernel
theorem dX11_writeOwners_19 : decode cX11_writeOwners 19 = .ok (.iconst 0, 1) := by decide +kernel
theorem dX11_writeOwners_20 : decode cX11_writeOwners 20 = .ok (.iaload, 1) := by decide +kernel
theorem dX11_writeOwners_21 : decode cX11_writeOwners 21 = .ok (.if_icmp .gt 49, 3) := by decide +kernel
theorem dX11_writeOwners_24 : decode cX11_writeOwners 24 = .ok (.iload_n 2, 1) := by decide +kernel
theorem dX11_writeOwners_25 : decode cX11_writeOwners 25 = .ok (.aload_n 0, 1) := by decide +kernel
theorem dX11_writeOwners_26 : decode cX11_writeOwners 26 = .ok (.getfield 13, 3) := by decide +kernel
theorem dX11_writeOwners_29 : decode cX11_writeOwners 29 = .ok (.iconst 0, 1) := by decide +kernel
theorem dX11_writeOwners_30 : decode cX11_writeOwners 30 = .ok (.iaload, 1) := by decide +kernel
theorem dX11_writeOwners_31 : decode cX11_writeOwners 31 = .ok (.if_icmp .ge 19, 3) := by decide +kernel
theorem dX11_writeOwners_34 : decode cX11_writeOwners 34 = .ok (.aload_n 0, 1) := by decide +kernel
theorem dX11_writeOwners_35 : decode cX11_writeOwners 35 = .ok (.iload_n 2, 1) := by decide +kernel
theorem dX11_writeOwners_36 : decode cX11_writeOwners 36 = .ok (.invokevirtual 113, 3) := by decide +kernel
theorem dX11_writeOwners_39 : decode cX11_writeOwners 39 = .ok (.aload_n 0, 1) := by decide +kernel
theorem dX11_writeOwners_40 : decode cX11_writeOwners 40 = .ok (.iload_n 1, 1) := by decide +kernel
theorem dX11_writeOwners_41 : decode cX11_writeOwners 41 = .ok (.invokevirtual 113, 3) := by decide +kernel
theorem dX11_writeOwners_44 : decode cX11_writeOwners 44 = .ok (.if_icmp .ne 6, 3) := by decide +kernel
theorem dX11_writeOwners_47 : decode cX11_writeOwners 47 = .ok (.goto 17, 3) := by decide +kernel
theorem dX11_writeOwners_50 : decode cX11_writeOwners 50 = .ok (.aload_n 0, 1) := by decide +kernel
theorem dX11_writeOwners_51 : decode cX11_writeOwners 51 = .ok (.iload_n 2, 1) := by decide +kernel
theorem dX11_writeOwners_52 : decode cX11_writeOwners 52 = .ok (.iload_n 1, 1) := by decide +kernel
theorem dX11_writeOwners_53 : decode cX11_writeOwners 53 = .ok (.isub, 1) := by decide +kernel
theorem dX11_writeOwners_54 : decode cX11_writeOwners 54 = .ok (.aload_n 0, 1) := by decide +kernel
theorem dX11_writeOwners_55 : decode cX11_writeOwners 55 = .ok (.iload_n 1, 1) := by decide +kernel
theorem dX11_writeOwners_56 : decode cX11_writeOwners 56 = .ok (.invokevirtual 113, 3) := by decide +kernel
theorem dX11_writeOwners_59 : decode cX11_writeOwners 59 = .ok (.invokevirtual 306, 3) := by decide +kernel
theorem dX11_writeOwners_62 : decode cX11_writeOwners 62 = .ok (.iload_n 2, 1) := by decide +kernel
theorem dX11_writeOwners_63 : decode cX11_writeOwners 63 = .ok (.istore_n 1, 1) := by decide +kernel
theorem dX11_writeOwners_64 : decode cX11_writeOwners 64 = .ok (.iinc 2 1, 3) := by decide +kernel
theorem dX11_writeOwners_67 : decode cX11_writeOwners 67 = .ok (.goto (-53), 3) := by decide +kernel
theorem dX11_writeOwners_70 : decode cX11_writeOwners 70 = .ok (.aload_n 0, 1) := by decide +kernel
theorem dX11_writeOwners_71 : decode cX11_writeOwners 71 = .ok (.getfield 39, 3) := by decide +kernel
theorem dX11_writeOwners_74 : decode cX11_writeOwners 74 = .ok (.ireturn, 1) := by decide +kernel
set_option maxRecDepth 20000 in
theorem ggX11_outputByte_X11_in : GoodIn wsX11_outputByte wsX11_in := goodIn_r _ [6] (by decide +kernel) (by decide +kernel)
set_option maxRecDepth 20000 in
theorem gX11_outputByte_X11_in : GoodIn wsX11_outputByte (va_wsS RX11 90 yX11_in wsX11_in) := goodIn_app (goodIn_of _ (by decide +kernel)) ggX11_outputByte_X11_in
set_option maxRecDepth 20000 in
theorem ggX11_outputByte_X11_fails : GoodIn wsX11_outputByte wsX11_fails := goodIn_r _ [10, 11, 12, 13, 14, 15, 16, 17, 18, 19, 20, 21, 22, 23, 24, 25, 26, 27, 28, 29, 30, 31] (by decide +kernel) (by decide +kernel)
set_option maxRecDepth 20000 in
theorem gX11_outputByte_X11_fails : GoodIn wsX11_outputByte (wsV RX11 171 RX11 yX11_fails wsX11_fails) := goodIn_app (goodIn_of _ (by decide +kernel)) ggX11_outputByte_X11_fails
theorem dX11_outputByte_0 : decode cX11_outputByte 0 = .ok (.aload_n 0, 1) := by decide +kernel
theorem dX11_outputByte_1 : decode cX11_outputByte 1 = .ok (.iload_n 1, 1) := by decide +kernel
theorem dX11_outputByte_2 : decode cX11_outputByte 2 = .ok (.iconst 0, 1) := by decide +kernel
theorem dX11_outputByte_3 : decode cX11_outputByte 3 = .ok (.aload_n 0, 1) := by decide +kernel
theorem dX11_outputByte_4 : decode cX11_outputByte 4 = .ok (.getfield 39, 3) := by decide +kernel
theorem dX11_outputByte_7 : decode cX11_outputByte 7 = .ok (.iconst 1, 1) := by decide +kernel
theorem dX11_outputByte_8 : decode cX11_outputByte 8 = .ok (.isub, 1) := by decide +kernel
theorem dX11_outputByte_9 : decode cX11_outputByte 9 = .ok (.invokestatic 90, 3) := by decide +kernel
theorem dX11_outputByte_12 : decode cX11_outputByte 12 = .ok (.ifCond .ne 7, 3) := by decide +kernel
theorem dX11_outputByte_15 : decode cX11_outputByte 15 = .ok (.iconst 1, 1) := by decide +kernel
theorem dX11_outputByte_16 : decode cX11_outputByte 16 = .ok (.goto 4, 3) := by decide +kernel
theorem dX11_outputByte_19 : decode cX11_outputByte 19 = .ok (.iconst 0, 1) := by decide +kernel
theorem dX11_outputByte_20 : decode cX11_outputByte 20 = .ok (.iconst 0, 1) := by decide +kernel
theorem dX11_outputByte_21 : decode cX11_outputByte 21 = .ok (.iconst 0, 1) := by decide +kernel
theorem dX11_outputByte_22 : decode cX11_outputByte 22 = .ok (.invokevirtual 171, 3) := by decide +kernel
theorem dX11_outputByte_25 : decode cX11_outputByte 25 = .ok (.ifCond .eq 5, 3) := by decide +kernel
theorem dX11_outputByte_28 : decode cX11_outputByte 28 = .ok (.iconst 0, 1) := by decide +kernel
theorem dX11_outputByte_29 : decode cX11_outputByte 29 = .ok (.ireturn, 1) := by decide +kernel
theorem dX11_outputByte_30 : decode cX11_outputByte 30 = .ok (.aload_n 0, 1) := by decide +kernel
theorem dX11_outputByte_31 : decode cX11_outputByte 31 = .ok (.getfield 36, 3) := by decide +kernel
theorem dX11_outputByte_34 : decode cX11_outputByte 34 = .ok (.iload_n 1, 1) := by decide +kernel
theorem dX11_outputByte_35 : decode cX11_outputByte 35 = .ok (.iaload, 1) := by decide +kernel
theorem dX11_outputByte_36 : decode cX11_outputByte 36 = .ok (.ireturn, 1) := by decide +kernel
theorem dJx29ce0_ordinal_8abf5_0 : decode cJx29ce0_ordinal_8abf5 0 = .ok (.aload_n 0, 1) := by decide +kernel
theorem dJx29ce0_ordinal_8abf5_1 : decode cJx29ce0_ordinal_8abf5 1 = .ok (.getfield 7, 3) := by decide +kernel
theorem dJx29ce0_ordinal_8abf5_4 : decode cJx29ce0_ordinal_8abf5 4 = .ok (.ireturn, 1) := by decide +kernel
theorem dJ9_abs_0f7a4_0 : decode cJ9_abs_0f7a4 0 = .ok (.iload_n 0, 1) := by decide +kernel
theorem dJ9_abs_0f7a4_1 : decode cJ9_abs_0f7a4 1 = .ok (.ifCond .ge 8, 3) := by decide +kernel
theorem dJ9_abs_0f7a4_4 : decode cJ9_abs_0f7a4 4 = .ok (.iload_n 0, 1) := by decide +kernel
theorem dJ9_abs_0f7a4_5 : decode cJ9_abs_0f7a4 5 = .ok (.ineg, 1) := by decide +kernel
theorem dJ9_abs_0f7a4_6 : decode cJ9_abs_0f7a4 6 = .ok (.goto 4, 3) := by decide +kernel
theorem dJ9_abs_0f7a4_9 : decode cJ9_abs_0f7a4 9 = .ok (.iload_n 0, 1) := by decide +kernel
theorem dJ9_abs_0f7a4_10 : decode cJ9_abs_0f7a4 10 = .ok (.ireturn, 1) := by decide +kernel
theorem dJ9_max_7cf53_0 : decode cJ9_max_7cf53 0 = .ok (.iload_n 0, 1) := by decide +kernel
theorem dJ9_max_7cf53_1 : decode cJ9_max_7cf53 1 = .ok (.iload_n 1, 1) := by decide +kernel
theorem dJ9_max_7cf53_2 : decode cJ9_max_7cf53 2 = .ok (.if_icmp .lt 7, 3) := by decide +kernel
theorem dJ9_max_7cf53_5 : decode cJ9_max_7cf53 5 = .ok (.iload_n 0, 1) := by decide +kernel
theorem dJ9_max_7cf53_6 : decode cJ9_max_7cf53 6 = .ok (.goto 4, 3) := by decide +kernel
theorem dJ9_max_7cf53_9 : decode cJ9_max_7cf53 9 = .ok (.iload_n 1, 1) := by decide +kernel
theorem dJ9_max_7cf53_10 : decode cJ9_max_7cf53 10 = .ok (.ireturn, 1) := by decide +kernel
theorem dJ9_min_7cf53_0 : decode cJ9_min_7cf53 0 = .ok (.iload_n 0, 1) := by decide +kernel
theorem dJ9_min_7cf53_1 : decode cJ9_min_7cf53 1 = .ok (.iload_n 1, 1) := by decide +kernel
theorem dJ9_min_7cf53_2 : decode cJ9_min_7cf53 2 = .ok (.if_icmp .gt 7, 3) := by decide +kernel
theorem dJ9_min_7cf53_5 : decode cJ9_min_7cf53 5 = .ok (.iload_n 0, 1) := by decide +kernel
theorem dJ9_min_7cf53_6 : decode cJ9_min_7cf53 6 = .ok (.goto 4, 3) := by decide +kernel
theorem dJ9_min_7cf53_9 : decode cJ9_min_7cf53 9 = .ok (.iload_n 1, 1) := by decide +kernel
theorem dJ9_min_7cf53_10 : decode cJ9_min_7cf53 10 = .ok (.ireturn, 1) := by decide +kernel
set_option maxRecDepth 20000 in
theorem ggJ0_length_8abf5_J0_coder_7d493 : GoodIn wsJ0_length_8abf5 wsJ0_coder_7d493 := goodIn_r _ [6, 7, 8] (by decide +kernel) (by decide +kernel)
set_option maxRecDepth 20000 in
theorem gJ0_length_8abf5_J0_coder_7d493 : GoodIn wsJ0_length_8abf5 (wsV RJ0 335 RJ0 yJ0_coder_7d493 wsJ0_coder_7d493) := goodIn_app (goodIn_of _ (by decide +kernel)) ggJ0_length_8abf5_J0_coder_7d493
theorem dJ0_length_8abf5_0 : decode cJ0_length_8abf5 0 = .ok (.aload_n 0, 1) := by decide +kernel
theorem dJ0_length_8abf5_1 : decode cJ0_length_8abf5 1 = .ok (.getfield 9, 3) := by decide +kernel
theorem dJ0_length_8abf5_4 : decode cJ0_length_8abf5 4 = .ok (.arraylength, 1) := by decide +kernel
theorem dJ0_length_8abf5_5 : decode cJ0_length_8abf5 5 = .ok (.aload_n 0, 1) := by decide +kernel
theorem dJ0_length_8abf5_6 : decode cJ0_length_8abf5 6 = .ok (.invokevirtual 335, 3) := by decide +kernel
theorem dJ0_length_8abf5_9 : decode cJ0_length_8abf5 9 = .ok (.ishr, 1) := by decide +kernel
theorem dJ0_length_8abf5_10 : decode cJ0_length_8abf5 10 = .ok (.ireturn, 1) := by decide +kernel
set_option maxRecDepth 20000 in
theorem ggJ0_charAt_5068e_J0_isLatin1_aae02 : GoodIn wsJ0_charAt_5068e wsJ0_isLatin1_aae02 := goodIn_r _ [6, 7, 8] (by decide +kernel) (by decide +kernel)
set_option maxRecDepth 20000 in
theorem gJ0_charAt_5068e_J0_isLatin1_aae02 : GoodIn wsJ0_charAt_5068e (wsV RJ0 492 RJ0 yJ0_isLatin1_aae02 wsJ0_isLatin1_aae02) := goodIn_app (goodIn_of _ (by decide +kernel)) ggJ0_charAt_5068e_J0_isLatin1_aae02
set_option maxRecDepth 20000 in
theorem ggJ0_charAt_5068e_J1_charAt_3b067 : GoodIn wsJ0_charAt_5068e wsJ1_charAt_3b067 := goodIn_r _ [12, 13, 14, 5, 15, 16, 17, 18, 19, 20] (by decide +kernel) (by decide +kernel)
set_option maxRecDepth 20000 in
theorem gJ0_charAt_5068e_J1_charAt_3b067 : GoodIn wsJ0_charAt_5068e (va_wsS RJ0 495 yJ1_charAt_3b067 wsJ1_charAt_3b067) := goodIn_app (goodIn_of _ (by decide +kernel)) ggJ0_charAt_5068e_J1_charAt_3b067
set_option maxRecDepth 20000 in
theorem ggJ0_charAt_5068e_J2_charAt_3b067 : GoodIn wsJ0_charAt_5068e wsJ2_charAt_3b067 := goodIn_r _ [24, 25, 26, 23, 27, 28, 29, 30, 31, 14, 5, 15, 16, 17, 18, 19, 20, 32, 33, 34, 35, 36, 37] (by decide +kernel) (by decide +kernel)
set_option maxRecDepth 20000 in
theorem gJ0_charAt_5068e_J2_charAt_3b067 : GoodIn wsJ0_charAt_5068e (va_wsS RJ0 498 yJ2_charAt_3b067 wsJ2_charAt_3b067) := goodIn_app (goodIn_of _ (by decide +kernel)) ggJ0_charAt_5068e_J2_charAt_3b067
theorem dJ0_charAt_5068e_0 : decode cJ0_charAt_5068e 0 = .ok (.aload_n 0, 1) := by decide +kernel
theorem dJ0_charAt_5068e_1 : decode cJ0_charAt_5068e 1 = .ok (.invokevirtual 492, 3) := by decide +kernel
theorem dJ0_charAt_5068e_4 : decode cJ0_charAt_5068e 4 = .ok (.ifCond .eq 12, 3) := by decide +kernel
theorem dJ0_charAt_5068e_7 : decode cJ0_charAt_5068e 7 = .ok (.aload_n 0, 1) := by decide +kernel
theorem dJ0_charAt_5068e_8 : decode cJ0_charAt_5068e 8 = .ok (.getfield 9, 3) := by decide +kernel
theorem dJ0_charAt_5068e_11 : decode cJ0_charAt_5068e 11 = .ok (.iload_n 1, 1) := by decide +kernel
theorem dJ0_charAt_5068e_12 : decode cJ0_charAt_5068e 12 = .ok (.invokestatic 495, 3) := by decide +kernel
theorem dJ0_charAt_5068e_15 : decode cJ0_charAt_5068e 15 = .ok (.ireturn, 1) := by decide +kernel
theorem dJ0_charAt_5068e_16 : decode cJ0_charAt_5068e 16 = .ok (.aload_n 0, 1) := by decide +kernel
theorem dJ0_charAt_5068e_17 : decode cJ0_charAt_5068e 17 = .ok (.getfield 9, 3) := by decide +kernel
theorem dJ0_charAt_5068e_20 : decode cJ0_charAt_5068e 20 = .ok (.iload_n 1, 1) := by decide +kernel
theorem dJ0_charAt_5068e_21 : decode cJ0_charAt_5068e 21 = .ok (.invokestatic 498, 3) := by decide +kernel
theorem dJ0_charAt_5068e_24 : decode cJ0_charAt_5068e 24 = .ok (.ireturn, 1) := by decide +kernel
theorem dJ0_coder_7d493_0 : decode cJ0_coder_7d493 0 = .ok (.getstatic 38, 3) := by decide +kernel
theorem dJ0_coder_7d493_3 : decode cJ0_coder_7d493 3 = .ok (.ifCond .eq 10, 3) := by decide +kernel
theorem dJ0_coder_7d493_6 : decode cJ0_coder_7d493 6 = .ok (.aload_n 0, 1) := by decide +kernel
theorem dJ0_coder_7d493_7 : decode cJ0_coder_7d493 7 = .ok (.getfield 15, 3) := by decide +kernel
theorem dJ0_coder_7d493_10 : decode cJ0_coder_7d493 10 = .ok (.goto 4, 3) := by decide +kernel
theorem dJ0_coder_7d493_13 : decode cJ0_coder_7d493 13 = .ok (.iconst 1, 1) := by decide +kernel
theorem dJ0_coder_7d493_14 : decode cJ0_coder_7d493 14 = .ok (.ireturn, 1) := by decide +kernel
theorem dJ0_isLatin1_aae02_0 : decode cJ0_isLatin1_aae02 0 = .ok (.getstatic 38, 3) := by decide +kernel
theorem dJ0_isLatin1_aae02_3 : decode cJ0_isLatin1_aae02 3 = .ok (.ifCond .eq 14, 3) := by decide +kernel
theorem dJ0_isLatin1_aae02_6 : decode cJ0_isLatin1_aae02 6 = .ok (.aload_n 0, 1) := by decide +kernel
theorem dJ0_isLatin1_aae02_7 : decode cJ0_isLatin1_aae02 7 = .ok (.getfield 15, 3) := by decide +kernel
theorem dJ0_isLatin1_aae02_10 : decode cJ0_isLatin1_aae02 10 = .ok (.ifCond .ne 7, 3) := by decide +kernel
theorem dJ0_isLatin1_aae02_13 : decode cJ0_isLatin1_aae02 13 = .ok (.iconst 1, 1) := by decide +kernel
theorem dJ0_isLatin1_aae02_14 : decode cJ0_isLatin1_aae02 14 = .ok (.goto 4, 3) := by decide +kernel
theorem dJ0_isLatin1_aae02_17 : decode cJ0_isLatin1_aae02 17 = .ok (.iconst 0, 1) := by decide +kernel
theorem dJ0_isLatin1_aae02_18 : decode cJ0_isLatin1_aae02 18 = .ok (.ireturn, 1) := by decide +kernel
set_option maxRecDepth 20000 in
theorem ggJ0_checkIndex_df160_J3_checkIndex_8e157 : GoodIn wsJ0_checkIndex_df160 wsJ3_checkIndex_8e157 := goodIn_r _ [5] (by decide +kernel) (by decide +kernel)
set_option maxRecDepth 20000 in
theorem gJ0_checkIndex_df160_J3_checkIndex_8e157 : GoodIn wsJ0_checkIndex_df160 (va_wsS RJ0 1059 yJ3_checkIndex_8e157 wsJ3_checkIndex_8e157) := goodIn_app (goodIn_of _ (by decide +kernel)) ggJ0_checkIndex_df160_J3_checkIndex_8e157
theorem dJ0_checkIndex_df160_0 : decode cJ0_checkIndex_df160 0 = .ok (.iload_n 0, 1) := by decide +kernel
theorem dJ0_checkIndex_df160_1 : decode cJ0_checkIndex_df160 1 = .ok (.iload_n 1, 1) := by decide +kernel
theorem dJ0_checkIndex_df160_2 : decode cJ0_checkIndex_df160 2 = .ok (.getstatic 1053, 3) := by decide +kernel
theorem dJ0_checkIndex_df160_5 : decode cJ0_checkIndex_df160 5 = .ok (.invokestatic 1059, 3) := by decide +kernel
theorem dJ0_checkIndex_df160_8 : decode cJ0_checkIndex_df160 8 = .ok (.pop, 1) := by decide +kernel
theorem dJ0_checkIndex_df160_9 : decode cJ0_checkIndex_df160 9 = .ok (.return_, 1) := by decide +kernel
set_option maxRecDepth 20000 in
theorem ggJ1_charAt_3b067_J0_checkIndex_df160 : GoodIn wsJ1_charAt_3b067 wsJ0_checkIndex_df160 := goodIn_r _ [4, 5, 6, 7, 8, 9] (by decide +kernel) (by decide +kernel)
set_option maxRecDepth 20000 in
theorem gJ1_charAt_3b067_J0_checkIndex_df160 : GoodIn wsJ1_charAt_3b067 (va_wsS RJ1 9 yJ0_checkIndex_df160 wsJ0_checkIndex_df160) := goodIn_app (goodIn_of _ (by decide +kernel)) ggJ1_charAt_3b067_J0_checkIndex_df160
theorem dJ1_charAt_3b067_0 : decode cJ1_charAt_3b067 0 = .ok (.iload_n 1, 1) := by decide +kernel
theorem dJ1_charAt_3b067_1 : decode cJ1_charAt_3b067 1 = .ok (.aload_n 0, 1) := by decide +kernel
theorem dJ1_charAt_3b067_2 : decode cJ1_charAt_3b067 2 = .ok (.arraylength, 1) := by decide +kernel
theorem dJ1_charAt_3b067_3 : decode cJ1_charAt_3b067 3 = .ok (.invokestatic 9, 3) := by decide +kernel
theorem dJ1_charAt_3b067_6 : decode cJ1_charAt_3b067 6 = .ok (.aload_n 0, 1) := by decide +kernel
theorem dJ1_charAt_3b067_7 : decode cJ1_charAt_3b067 7 = .ok (.iload_n 1, 1) := by decide +kernel
theorem dJ1_charAt_3b067_8 : decode cJ1_charAt_3b067 8 = .ok (.baload, 1) := by decide +kernel
theorem dJ1_charAt_3b067_9 : decode cJ1_charAt_3b067 9 = .ok (.sipush 255, 3) := by decide +kernel
theorem dJ1_charAt_3b067_12 : decode cJ1_charAt_3b067 12 = .ok (.iand, 1) := by decide +kernel
theorem dJ1_charAt_3b067_13 : decode cJ1_charAt_3b067 13 = .ok (.i2c, 1) := by decide +kernel
theorem dJ1_charAt_3b067_14 : decode cJ1_charAt_3b067 14 = .ok (.ireturn, 1) := by decide +kernel
set_option maxRecDepth 20000 in
theorem ggJ2_getChar_3b067_J2_length_9d52b : GoodIn wsJ2_getChar_3b067 wsJ2_length_9d52b := goodIn_r _ [7] (by decide +kernel) (by decide +kernel)
set_option maxRecDepth 20000 in
theorem gJ2_getChar_3b067_J2_length_9d52b : GoodIn wsJ2_getChar_3b067 (va_wsS RJ2 48 yJ2_length_9d52b wsJ2_length_9d52b) := goodIn_app (goodIn_of _ (by decide +kernel)) ggJ2_getChar_3b067_J2_length_9d52b
theorem dJ2_getChar_3b067_0 : decode cJ2_getChar_3b067 0 = .ok (.getstatic 44, 3) := by decide +kernel
theorem dJ2_getChar_3b067_3 : decode cJ2_getChar_3b067 3 = .ok (.ifCond .ne 25, 3) := by decide +kernel
theorem dJ2_getChar_3b067_6 : decode cJ2_getChar_3b067 6 = .ok (.iload_n 1, 1) := by decide +kernel
theorem dJ2_getChar_3b067_7 : decode cJ2_getChar_3b067 7 = .ok (.ifCond .lt 11, 3) := by decide +kernel
theorem dJ2_getChar_3b067_10 : decode cJ2_getChar_3b067 10 = .ok (.iload_n 1, 1) := by decide +kernel
theorem dJ2_getChar_3b067_11 : decode cJ2_getChar_3b067 11 = .ok (.aload_n 0, 1) := by decide +kernel
theorem dJ2_getChar_3b067_12 : decode cJ2_getChar_3b067 12 = .ok (.invokestatic 48, 3) := by decide +kernel
theorem dJ2_getChar_3b067_15 : decode cJ2_getChar_3b067 15 = .ok (.if_icmp .lt 13, 3) := by decide +kernel
theorem dJ2_getChar_3b067_18 : decode cJ2_getChar_3b067 18 = .ok (.new 52, 3) := by decide +kernel
theorem dJ2_getChar_3b067_21 : decode cJ2_getChar_3b067 21 = .ok (.dup, 1) := by decide +kernel
theorem dJ2_getChar_3b067_22 : decode cJ2_getChar_3b067 22 = .ok (.ldc 54, 2) := by decide +kernel
theorem dJ2_getChar_3b067_24 : decode cJ2_getChar_3b067 24 = .ok (.invokespecial 56, 3) := by decide +kernel
theorem dJ2_getChar_3b067_27 : decode cJ2_getChar_3b067 27 = .ok (.athrow, 1) := by decide +kernel
theorem dJ2_getChar_3b067_28 : decode cJ2_getChar_3b067 28 = .ok (.iload_n 1, 1) := by decide +kernel
theorem dJ2_getChar_3b067_29 : decode cJ2_getChar_3b067 29 = .ok (.iconst 1, 1) := by decide +kernel
theorem dJ2_getChar_3b067_30 : decode cJ2_getChar_3b067 30 = .ok (.ishl, 1) := by decide +kernel
theorem dJ2_getChar_3b067_31 : decode cJ2_getChar_3b067 31 = .ok (.istore_n 1, 1) := by decide +kernel
theorem dJ2_getChar_3b067_32 : decode cJ2_getChar_3b067 32 = .ok (.aload_n 0, 1) := by decide +kernel
theorem dJ2_getChar_3b067_33 : decode cJ2_getChar_3b067 33 = .ok (.iload_n 1, 1) := by decide +kernel
theorem dJ2_getChar_3b067_34 : decode cJ2_getChar_3b067 34 = .ok (.iinc 1 1, 3) := by decide +kernel
theorem dJ2_getChar_3b067_37 : decode cJ2_getChar_3b067 37 = .ok (.baload, 1) := by decide +kernel
theorem dJ2_getChar_3b067_38 : decode cJ2_getChar_3b067 38 = .ok (.sipush 255, 3) := by decide +kernel
theorem dJ2_getChar_3b067_41 : decode cJ2_getChar_3b067 41 = .ok (.iand, 1) := by decide +kernel
theorem dJ2_getChar_3b067_42 : decode cJ2_getChar_3b067 42 = .ok (.getstatic 59, 3) := by decide +kernel
theorem dJ2_getChar_3b067_45 : decode cJ2_getChar_3b067 45 = .ok (.ishl, 1) := by decide +kernel
theorem dJ2_getChar_3b067_46 : decode cJ2_getChar_3b067 46 = .ok (.aload_n 0, 1) := by decide +kernel
theorem dJ2_getChar_3b067_47 : decode cJ2_getChar_3b067 47 = .ok (.iload_n 1, 1) := by decide +kernel
theorem dJ2_getChar_3b067_48 : decode cJ2_getChar_3b067 48 = .ok (.baload, 1) := by decide +kernel
theorem dJ2_getChar_3b067_49 : decode cJ2_getChar_3b067 49 = .ok (.sipush 255, 3) := by decide +kernel
theorem dJ2_getChar_3b067_52 : decode cJ2_getChar_3b067 52 = .ok (.iand, 1) := by decide +kernel
theorem dJ2_getChar_3b067_53 : decode cJ2_getChar_3b067 53 = .ok (.getstatic 63, 3) := by decide +kernel
theorem dJ2_getChar_3b067_56 : decode cJ2_getChar_3b067 56 = .ok (.ishl, 1) := by decide +kernel
theorem dJ2_getChar_3b067_57 : decode cJ2_getChar_3b067 57 = .ok (.ior, 1) := by decide +kernel
theorem dJ2_getChar_3b067_58 : decode cJ2_getChar_3b067 58 = .ok (.i2c, 1) := by decide +kernel
theorem dJ2_getChar_3b067_59 : decode cJ2_getChar_3b067 59 = .ok (.ireturn, 1) := by decide +kernel
theorem dJ2_length_9d52b_0 : decode cJ2_length_9d52b 0 = .ok (.aload_n 0, 1) := by decide +kernel
theorem dJ2_length_9d52b_1 : decode cJ2_length_9d52b 1 = .ok (.arraylength, 1) := by decide +kernel
theorem dJ2_length_9d52b_2 : decode cJ2_length_9d52b 2 = .ok (.iconst 1, 1) := by decide +kernel
theorem dJ2_length_9d52b_3 : decode cJ2_length_9d52b 3 = .ok (.ishr, 1) := by decide +kernel
theorem dJ2_length_9d52b_4 : decode cJ2_length_9d52b 4 = .ok (.ireturn, 1) := by decide +kernel
set_option maxRecDepth 20000 in
theorem ggJ2_charAt_3b067_J2_checkIndex_2214a : GoodIn wsJ2_charAt_3b067 wsJ2_checkIndex_2214a := goodIn_r _ [4, 5, 6, 3, 7, 8, 9, 10, 11, 12, 13, 14, 15, 16] (by decide +kernel) (by decide +kernel)
set_option maxRecDepth 20000 in
theorem gJ2_charAt_3b067_J2_checkIndex_2214a : GoodIn wsJ2_charAt_3b067 (va_wsS RJ2 67 yJ2_checkIndex_2214a wsJ2_checkIndex_2214a) := goodIn_app (goodIn_of _ (by decide +kernel)) ggJ2_charAt_3b067_J2_checkIndex_2214a
set_option maxRecDepth 20000 in
theorem ggJ2_charAt_3b067_J2_getChar_3b067 : GoodIn wsJ2_charAt_3b067 wsJ2_getChar_3b067 := goodIn_r _ [19, 20, 21, 22, 5, 6, 3, 7] (by decide +kernel) (by decide +kernel)
set_option maxRecDepth 20000 in
theorem gJ2_charAt_3b067_J2_getChar_3b067 : GoodIn wsJ2_charAt_3b067 (va_wsS RJ2 71 yJ2_getChar_3b067 wsJ2_getChar_3b067) := goodIn_app (goodIn_of _ (by decide +kernel)) ggJ2_charAt_3b067_J2_getChar_3b067
theorem dJ2_charAt_3b067_0 : decode cJ2_charAt_3b067 0 = .ok (.iload_n 1, 1) := by decide +kernel
theorem dJ2_charAt_3b067_1 : decode cJ2_charAt_3b067 1 = .ok (.aload_n 0, 1) := by decide +kernel
theorem dJ2_charAt_3b067_2 : decode cJ2_charAt_3b067 2 = .ok (.invokestatic 67, 3) := by decide +kernel
theorem dJ2_charAt_3b067_5 : decode cJ2_charAt_3b067 5 = .ok (.aload_n 0, 1) := by decide +kernel
theorem dJ2_charAt_3b067_6 : decode cJ2_charAt_3b067 6 = .ok (.iload_n 1, 1) := by decide +kernel
theorem dJ2_charAt_3b067_7 : decode cJ2_charAt_3b067 7 = .ok (.invokestatic 71, 3) := by decide +kernel
theorem dJ2_charAt_3b067_10 : decode cJ2_charAt_3b067 10 = .ok (.ireturn, 1) := by decide +kernel
set_option maxRecDepth 20000 in
theorem ggJ2_checkIndex_2214a_J2_length_9d52b : GoodIn wsJ2_checkIndex_2214a wsJ2_length_9d52b := goodIn_r _ [4] (by decide +kernel) (by decide +kernel)
set_option maxRecDepth 20000 in
theorem gJ2_checkIndex_2214a_J2_length_9d52b : GoodIn wsJ2_checkIndex_2214a (va_wsS RJ2 48 yJ2_length_9d52b wsJ2_length_9d52b) := goodIn_app (goodIn_of _ (by decide +kernel)) ggJ2_checkIndex_2214a_J2_length_9d52b
set_option maxRecDepth 20000 in
theorem ggJ2_checkIndex_2214a_J0_checkIndex_df160 : GoodIn wsJ2_checkIndex_2214a wsJ0_checkIndex_df160 := goodIn_r _ [8, 9, 10, 11, 12, 13] (by decide +kernel) (by decide +kernel)
set_option maxRecDepth 20000 in
theorem gJ2_checkIndex_2214a_J0_checkIndex_df160 : GoodIn wsJ2_checkIndex_2214a (va_wsS RJ2 414 yJ0_checkIndex_df160 wsJ0_checkIndex_df160) := goodIn_app (goodIn_of _ (by decide +kernel)) ggJ2_checkIndex_2214a_J0_checkIndex_df160
theorem dJ2_checkIndex_2214a_0 : decode cJ2_checkIndex_2214a 0 = .ok (.iload_n 0, 1) := by decide +kernel
theorem dJ2_checkIndex_2214a_1 : decode cJ2_checkIndex_2214a 1 = .ok (.aload_n 1, 1) := by decide +kernel
theorem dJ2_checkIndex_2214a_2 : decode cJ2_checkIndex_2214a 2 = .ok (.invokestatic 48, 3) := by decide +kernel
theorem dJ2_checkIndex_2214a_5 : decode cJ2_checkIndex_2214a 5 = .ok (.invokestatic 414, 3) := by decide +kernel
theorem dJ2_checkIndex_2214a_8 : decode cJ2_checkIndex_2214a 8 = .ok (.return_, 1) := by decide +kernel
theorem dJ3_checkIndex_8e157_0 : decode cJ3_checkIndex_8e157 0 = .ok (.iload_n 0, 1) := by decide +kernel
theorem dJ3_checkIndex_8e157_1 : decode cJ3_checkIndex_8e157 1 = .ok (.ifCond .lt 8, 3) := by decide +kernel
theorem dJ3_checkIndex_8e157_4 : decode cJ3_checkIndex_8e157 4 = .ok (.iload_n 0, 1) := by decide +kernel
theorem dJ3_checkIndex_8e157_5 : decode cJ3_checkIndex_8e157 5 = .ok (.iload_n 1, 1) := by decide +kernel
theorem dJ3_checkIndex_8e157_6 : decode cJ3_checkIndex_8e157 6 = .ok (.if_icmp .lt 10, 3) := by decide +kernel
theorem dJ3_checkIndex_8e157_9 : decode cJ3_checkIndex_8e157 9 = .ok (.aload_n 2, 1) := by decide +kernel
theorem dJ3_checkIndex_8e157_10 : decode cJ3_checkIndex_8e157 10 = .ok (.iload_n 0, 1) := by decide +kernel
theorem dJ3_checkIndex_8e157_11 : decode cJ3_checkIndex_8e157 11 = .ok (.iload_n 1, 1) := by decide +kernel
theorem dJ3_checkIndex_8e157_12 : decode cJ3_checkIndex_8e157 12 = .ok (.invokestatic 95, 3) := by decide +kernel
theorem dJ3_checkIndex_8e157_15 : decode cJ3_checkIndex_8e157 15 = .ok (.athrow, 1) := by decide +kernel
theorem dJ3_checkIndex_8e157_16 : decode cJ3_checkIndex_8e157 16 = .ok (.iload_n 0, 1) := by decide +kernel
theorem dJ3_checkIndex_8e157_17 : decode cJ3_checkIndex_8e157 17 = .ok (.ireturn, 1) := by decide +kernel
set_option maxRecDepth 20000 in
theorem ggL_append_X10_append : GoodIn wsL_append wsX10_append := goodIn_ca (goodIn_r _ [6, 7, 8, 9, 10, 11, 12, 13, 14, 15, 16, 17, 18, 19, 20, 21, 22, 23, 24, 25, 26, 27, 28, 29, 30, 31, 32, 33] (by decide +kernel) (by decide +kernel)) (goodIn_sub (fun _ h => List.mem_cons_of_mem _ (List.mem_append_right _ h)) (by decide +kernel))
set_option maxRecDepth 20000 in
theorem gL_append_X10_append : GoodIn wsL_append (wsV RL 7 RX10 yX10_append wsX10_append) := goodIn_app (goodIn_of _ (by decide +kernel)) ggL_append_X10_append
