set_option maxRecDepth 20000 in
theorem gX10_literal_X10_look : GoodIn wsX10_literal (wsV RX10 110 RX10 yX10_look wsX10_look) := goodIn_app (goodIn_of _ (by decide +kernel)) ggX10_literal_X10_look
set_option maxRecDepth 20000 in
theorem ggX10_literal_X10_exponentRow : GoodIn wsX10_literal wsX10_exponentRow := goodIn_r _ [34, 1, 35, 36, 5, 4, 13, 14, 15, 10, 16, 6, 17, 18, 19, 20, 21, 22, 23, 37, 38, 39, 40, 41, 42, 43, 44, 45, 46, 47, 48, 49, 50, 51, 52, 53, 54, 55, 56, 57, 58, 59, 60, 61, 62] rfl (by decide +kernel)
set_option maxRecDepth 20000 in
theorem gX10_literal_X10_exponentRow : GoodIn wsX10_literal (wsV RX10 134 RX10 yX10_exponentRow wsX10_exponentRow) := goodIn_app (goodIn_of _ (by decide +kernel)) ggX10_literal_X10_exponentRow
theorem dX10_literal_0 : decode cX10_literal 0 = .ok (.aload_n 0, 1) := by decide +kernel
theorem dX10_literal_1 : decode cX10_literal 1 = .ok (.iload_n 1, 1) := by decide +kernel
theorem dX10_literal_2 : decode cX10_literal 2 = .ok (.ifCond .eq 7, 3) := by decide +kernel
theorem dX10_literal_5 : decode cX10_literal 5 = .ok (.iconst 2, 1) := by decide +kernel
theorem dX10_literal_6 : decode cX10_literal 6 = .ok (.goto 4, 3) := by decide +kernel
theorem dX10_literal_9 : decode cX10_literal 9 = .ok (.iconst 0, 1) := by decide +kernel
theorem dX10_literal_10 : decode cX10_literal 10 = .ok (.putfield 107, 3) := by decide +kernel
theorem dX10_literal_13 : decode cX10_literal 13 = .ok (.aload_n 0, 1) := by decide +kernel
theorem dX10_literal_14 : decode cX10_literal 14 = .ok (.iconst 0, 1) := by decide +kernel
theorem dX10_literal_15 : decode cX10_literal 15 = .ok (.putfield 62, 3) := by decide +kernel
theorem dX10_literal_18 : decode cX10_literal 18 = .ok (.aload_n 0, 1) := by decide +kernel
theorem dX10_literal_19 : decode cX10_literal 19 = .ok (.iconst 0, 1) := by decide +kernel
theorem dX10_literal_20 : decode cX10_literal 20 = .ok (.putfield 118, 3) := by decide +kernel
theorem dX10_literal_23 : decode cX10_literal 23 = .ok (.aload_n 0, 1) := by decide +kernel
theorem dX10_literal_24 : decode cX10_literal 24 = .ok (.iconst 0, 1) := by decide +kernel
theorem dX10_literal_25 : decode cX10_literal 25 = .ok (.putfield 127, 3) := by decide +kernel
theorem dX10_literal_28 : decode cX10_literal 28 = .ok (.aload_n 0, 1) := by decide +kernel
theorem dX10_literal_29 : decode cX10_literal 29 = .ok (.iconst 1, 1) := by decide +kernel
theorem dX10_literal_30 : decode cX10_literal 30 = .ok (.putfield 121, 3) := by decide +kernel
theorem dX10_literal_33 : decode cX10_literal 33 = .ok (.aload_n 0, 1) := by decide +kernel
theorem dX10_literal_34 : decode cX10_literal 34 = .ok (.iload_n 1, 1) := by decide +kernel
theorem dX10_literal_35 : decode cX10_literal 35 = .ok (.invokevirtual 130, 3) := by decide +kernel
theorem dX10_literal_38 : decode cX10_literal 38 = .ok (.istore_n 2, 1) := by decide +kernel
theorem dX10_literal_39 : decode cX10_literal 39 = .ok (.iconst 0, 1) := by decide +kernel
theorem dX10_literal_40 : decode cX10_literal 40 = .ok (.istore_n 3, 1) := by decide +kernel
theorem dX10_literal_41 : decode cX10_literal 41 = .ok (.aload_n 0, 1) := by decide +kernel
theorem dX10_literal_42 : decode cX10_literal 42 = .ok (.invokevirtual 110, 3) := by decide +kernel
theorem dX10_literal_45 : decode cX10_literal 45 = .ok (.bipush 46, 2) := by decide +kernel
theorem dX10_literal_47 : decode cX10_literal 47 = .ok (.if_icmp .ne 19, 3) := by decide +kernel
theorem dX10_literal_50 : decode cX10_literal 50 = .ok (.aload_n 0, 1) := by decide +kernel
theorem dX10_literal_51 : decode cX10_literal 51 = .ok (.dup, 1) := by decide +kernel
theorem dX10_literal_52 : decode cX10_literal 52 = .ok (.getfield 107, 3) := by decide +kernel
theorem dX10_literal_55 : decode cX10_literal 55 = .ok (.iconst 1, 1) := by decide +kernel
theorem dX10_literal_56 : decode cX10_literal 56 = .ok (.iadd, 1) := by decide +kernel
theorem dX10_literal_57 : decode cX10_literal 57 = .ok (.putfield 107, 3) := by decide +kernel
theorem dX10_literal_60 : decode cX10_literal 60 = .ok (.aload_n 0, 1) := by decide +kernel
theorem dX10_literal_61 : decode cX10_literal 61 = .ok (.iload_n 1, 1) := by decide +kernel
theorem dX10_literal_62 : decode cX10_literal 62 = .ok (.invokevirtual 130, 3) := by decide +kernel
theorem dX10_literal_65 : decode cX10_literal 65 = .ok (.istore_n 3, 1) := by decide +kernel
theorem dX10_literal_66 : decode cX10_literal 66 = .ok (.iload_n 2, 1) := by decide +kernel
theorem dX10_literal_67 : decode cX10_literal 67 = .ok (.iload_n 3, 1) := by decide +kernel
theorem dX10_literal_68 : decode cX10_literal 68 = .ok (.iadd, 1) := by decide +kernel
theorem dX10_literal_69 : decode cX10_literal 69 = .ok (.ifCond .ne 5, 3) := by decide +kernel
theorem dX10_literal_72 : decode cX10_literal 72 = .ok (.iconst 0, 1) := by decide +kernel
theorem dX10_literal_73 : decode cX10_literal 73 = .ok (.ireturn, 1) := by decide +kernel
theorem dX10_literal_74 : decode cX10_literal 74 = .ok (.aload_n 0, 1) := by decide +kernel
theorem dX10_literal_75 : decode cX10_literal 75 = .ok (.iload_n 1, 1) := by decide +kernel
theorem dX10_literal_76 : decode cX10_literal 76 = .ok (.ifCond .eq 10, 3) := by decide +kernel
theorem dX10_literal_79 : decode cX10_literal 79 = .ok (.bipush (-4), 2) := by decide +kernel
theorem dX10_literal_81 : decode cX10_literal 81 = .ok (.iload_n 3, 1) := by decide +kernel
theorem dX10_literal_82 : decode cX10_literal 82 = .ok (.imul, 1) := by decide +kernel
theorem dX10_literal_83 : decode cX10_literal 83 = .ok (.goto 5, 3) := by decide +kernel
theorem dX10_literal_86 : decode cX10_literal 86 = .ok (.iload_n 3, 1) := by decide +kernel
theorem dX10_literal_87 : decode cX10_literal 87 = .ok (.ineg, 1) := by decide +kernel
theorem dX10_literal_88 : decode cX10_literal 88 = .ok (.putfield 127, 3) := by decide +kernel
theorem dX10_literal_91 : decode cX10_literal 91 = .ok (.iload_n 1, 1) := by decide +kernel
theorem dX10_literal_92 : decode cX10_literal 92 = .ok (.ifCond .eq 29, 3) := by decide +kernel
theorem dX10_literal_95 : decode cX10_literal 95 = .ok (.aload_n 0, 1) := by decide +kernel
theorem dX10_literal_96 : decode cX10_literal 96 = .ok (.invokevirtual 110, 3) := by decide +kernel
theorem dX10_literal_99 : decode cX10_literal 99 = .ok (.bipush 112, 2) := by decide +kernel
theorem dX10_literal_101 : decode cX10_literal 101 = .ok (.if_icmp .eq 12, 3) := by decide +kernel
theorem dX10_literal_104 : decode cX10_literal 104 = .ok (.aload_n 0, 1) := by decide +kernel
theorem dX10_literal_105 : decode cX10_literal 105 = .ok (.invokevirtual 110, 3) := by decide +kernel
theorem dX10_literal_108 : decode cX10_literal 108 = .ok (.bipush 80, 2) := by decide +kernel
theorem dX10_literal_110 : decode cX10_literal 110 = .ok (.if_icmp .ne 7, 3) := by decide +kernel
theorem dX10_literal_113 : decode cX10_literal 113 = .ok (.iconst 1, 1) := by decide +kernel
theorem dX10_literal_114 : decode cX10_literal 114 = .ok (.goto 30, 3) := by decide +kernel
theorem dX10_literal_117 : decode cX10_literal 117 = .ok (.iconst 0, 1) := by decide +kernel
theorem dX10_literal_118 : decode cX10_literal 118 = .ok (.goto 26, 3) := by decide +kernel
theorem dX10_literal_121 : decode cX10_literal 121 = .ok (.aload_n 0, 1) := by decide +kernel
theorem dX10_literal_122 : decode cX10_literal 122 = .ok (.invokevirtual 110, 3) := by decide +kernel
theorem dX10_literal_125 : decode cX10_literal 125 = .ok (.bipush 101, 2) := by decide +kernel
theorem dX10_literal_127 : decode cX10_literal 127 = .ok (.if_icmp .eq 12, 3) := by decide +kernel
theorem dX10_literal_130 : decode cX10_literal 130 = .ok (.aload_n 0, 1) := by decide +kernel
theorem dX10_literal_131 : decode cX10_literal 131 = .ok (.invokevirtual 110, 3) := by decide +kernel
theorem dX10_literal_134 : decode cX10_literal 134 = .ok (.bipush 69, 2) := by decide +kernel
theorem dX10_literal_136 : decode cX10_literal 136 = .ok (.if_icmp .ne 7, 3) := by decide +kernel
theorem dX10_literal_139 : decode cX10_literal 139 = .ok (.iconst 1, 1) := by decide +kernel
theorem dX10_literal_140 : decode cX10_literal 140 = .ok (.goto 4, 3) := by decide +kernel
theorem dX10_literal_143 : decode cX10_literal 143 = .ok (.iconst 0, 1) := by decide +kernel
theorem dX10_literal_144 : decode cX10_literal 144 = .ok (.istore 4, 2) := by decide +kernel
theorem dX10_literal_146 : decode cX10_literal 146 = .ok (.iload 4, 2) := by decide +kernel
theorem dX10_literal_148 : decode cX10_literal 148 = .ok (.ifCond .eq 7, 3) := by decide +kernel
theorem dX10_literal_151 : decode cX10_literal 151 = .ok (.aload_n 0, 1) := by decide +kernel
theorem dX10_literal_152 : decode cX10_literal 152 = .ok (.invokevirtual 134, 3) := by decide +kernel
theorem dX10_literal_155 : decode cX10_literal 155 = .ok (.aload_n 0, 1) := by decide +kernel
theorem dX10_literal_156 : decode cX10_literal 156 = .ok (.getfield 121, 3) := by decide +kernel
theorem dX10_literal_159 : decode cX10_literal 159 = .ok (.ifCond .eq 27, 3) := by decide +kernel
theorem dX10_literal_162 : decode cX10_literal 162 = .ok (.iload 4, 2) := by decide +kernel
theorem dX10_literal_164 : decode cX10_literal 164 = .ok (.ifCond .ne 7, 3) := by decide +kernel
theorem dX10_literal_167 : decode cX10_literal 167 = .ok (.iload_n 1, 1) := by decide +kernel
theorem dX10_literal_168 : decode cX10_literal 168 = .ok (.ifCond .ne 18, 3) := by decide +kernel
theorem dX10_literal_171 : decode cX10_literal 171 = .ok (.aload_n 0, 1) := by decide +kernel
theorem dX10_literal_172 : decode cX10_literal 172 = .ok (.getfield 107, 3) := by decide +kernel
theorem dX10_literal_175 : decode cX10_literal 175 = .ok (.aload_n 0, 1) := by decide +kernel
theorem dX10_literal_176 : decode cX10_literal 176 = .ok (.getfield 46, 3) := by decide +kernel
theorem dX10_literal_179 : decode cX10_literal 179 = .ok (.if_icmp .ne 7, 3) := by decide +kernel
theorem dX10_literal_182 : decode cX10_literal 182 = .ok (.iconst 1, 1) := by decide +kernel
theorem dX10_literal_183 : decode cX10_literal 183 = .ok (.goto 4, 3) := by decide +kernel
theorem dX10_literal_186 : decode cX10_literal 186 = .ok (.iconst 0, 1) := by decide +kernel
theorem dX10_literal_187 : decode cX10_literal 187 = .ok (.ireturn, 1) := by decide +kernel
set_option maxRecDepth 20000 in
theorem ggX10_read_X10_isBinary : GoodIn wsX10_read wsX10_isBinary := goodIn_r _ [13, 1, 14, 101, 102, 103, 104, 105, 106, 107, 108, 109, 110, 111, 112, 113, 114, 115, 116, 117, 118, 119, 120, 121, 122, 123, 124, 125, 126] rfl (by decide +kernel)
set_option maxRecDepth 20000 in
theorem gX10_read_X10_isBinary : GoodIn wsX10_read (wsV RX10 137 RX10 yX10_isBinary wsX10_isBinary) := goodIn_app (goodIn_of _ (by decide +kernel)) ggX10_read_X10_isBinary
set_option maxRecDepth 20000 in
theorem ggX10_read_X10_literal : GoodIn wsX10_read wsX10_literal := goodIn_r _ [18, 19, 5, 4, 3, 20, 1, 21, 22, 23, 12, 24, 25, 26, 27, 28, 29, 14, 30, 31, 32, 33, 34, 35, 36, 37, 38, 39, 40, 41, 42, 43, 44, 45, 46, 47, 48, 101, 102, 103, 104, 105, 106, 107, 108, 109, 110, 111, 112, 113, 114, 115, 116, 117, 118, 119, 120, 121, 122, 123, 124, 125, 126] rfl (by decide +kernel)
set_option maxRecDepth 20000 in
theorem gX10_read_X10_literal : GoodIn wsX10_read (wsV RX10 141 RX10 yX10_literal wsX10_literal) := goodIn_app (goodIn_of _ (by decide +kernel)) ggX10_read_X10_literal
set_option maxRecDepth 20000 in
theorem ggX10_read_X10_fail : GoodIn wsX10_read wsX10_fail := goodIn_r _ [52, 7, 101, 102, 103, 104, 105, 106, 107, 108, 109, 110, 111, 112, 113, 114, 115, 116, 117, 118, 119, 120, 121, 122, 123, 124, 125, 126] rfl (by decide +kernel)
set_option maxRecDepth 20000 in
theorem gX10_read_X10_fail : GoodIn wsX10_read (wsV RX10 42 RX10 yX10_fail wsX10_fail) := goodIn_app (goodIn_of _ (by decide +kernel)) ggX10_read_X10_fail
set_option maxRecDepth 20000 in
theorem ggX10_read_X10_greatest : GoodIn wsX10_read wsX10_greatest := goodIn_r _ [55, 56, 57] rfl (by decide +kernel)
set_option maxRecDepth 20000 in
theorem gX10_read_X10_greatest : GoodIn wsX10_read (va_wsS RX10 100 yX10_greatest wsX10_greatest) := goodIn_app (goodIn_of _ (by decide +kernel)) ggX10_read_X10_greatest
set_option maxRecDepth 20000 in
theorem ggX10_read_X10_found : GoodIn wsX10_read wsX10_found := goodIn_r _ [61, 62, 63, 3, 64, 25, 5, 65, 66, 12, 67, 39, 40, 41, 42, 68, 69, 70, 36, 37, 38, 71, 72, 73, 74, 75, 53, 54, 55, 56, 57, 76, 77, 78, 79, 80, 81, 82, 83, 84, 85, 86, 87, 88, 89, 90, 91, 92, 93, 94, 95, 96, 97, 98, 99, 100, 101, 102, 103, 104, 105, 106, 107, 108, 109, 110, 111, 112, 113, 114, 115, 116, 117, 118, 119, 120, 121, 122, 123, 124, 125, 126] rfl (by decide +kernel)
set_option maxRecDepth 20000 in
theorem gX10_read_X10_found : GoodIn wsX10_read (wsV RX10 148 RX10 yX10_found wsX10_found) := goodIn_app (goodIn_of _ (by decide +kernel)) ggX10_read_X10_found
theorem dX10_read_0 : decode cX10_read 0 = .ok (.aload_n 0, 1) := by decide +kernel
theorem dX10_read_1 : decode cX10_read 1 = .ok (.invokevirtual 137, 3) := by decide +kernel
theorem dX10_read_4 : decode cX10_read 4 = .ok (.istore_n 2, 1) := by decide +kernel
theorem dX10_read_5 : decode cX10_read 5 = .ok (.aload_n 0, 1) := by decide +kernel
theorem dX10_read_6 : decode cX10_read 6 = .ok (.iload_n 2, 1) := by decide +kernel
theorem dX10_read_7 : decode cX10_read 7 = .ok (.invokevirtual 141, 3) := by decide +kernel
theorem dX10_read_10 : decode cX10_read 10 = .ok (.istore_n 3, 1) := by decide +kernel
theorem dX10_read_11 : decode cX10_read 11 = .ok (.aload_n 0, 1) := by decide +kernel
theorem dX10_read_12 : decode cX10_read 12 = .ok (.iconst 0, 1) := by decide +kernel
theorem dX10_read_13 : decode cX10_read 13 = .ok (.putfield 46, 3) := by decide +kernel
theorem dX10_read_16 : decode cX10_read 16 = .ok (.iload_n 3, 1) := by decide +kernel
theorem dX10_read_17 : decode cX10_read 17 = .ok (.ifCond .ne 20, 3) := by decide +kernel
theorem dX10_read_20 : decode cX10_read 20 = .ok (.aload_n 0, 1) := by decide +kernel
theorem dX10_read_21 : decode cX10_read 21 = .ok (.dup, 1) := by decide +kernel
theorem dX10_read_22 : decode cX10_read 22 = .ok (.getfield 145, 3) := by decide +kernel
theorem dX10_read_25 : decode cX10_read 25 = .ok (.iconst 1, 1) := by decide +kernel
theorem dX10_read_26 : decode cX10_read 26 = .ok (.iadd, 1) := by decide +kernel
theorem dX10_read_27 : decode cX10_read 27 = .ok (.putfield 145, 3) := by decide +kernel
theorem dX10_read_30 : decode cX10_read 30 = .ok (.aload_n 0, 1) := by decide +kernel
theorem dX10_read_31 : decode cX10_read 31 = .ok (.iconst 1, 1) := by decide +kernel
theorem dX10_read_32 : decode cX10_read 32 = .ok (.invokevirtual 42, 3) := by decide +kernel
theorem dX10_read_35 : decode cX10_read 35 = .ok (.i2l, 1) := by decide +kernel
theorem dX10_read_36 : decode cX10_read 36 = .ok (.lreturn, 1) := by decide +kernel
theorem dX10_read_37 : decode cX10_read 37 = .ok (.iload_n 2, 1) := by decide +kernel
theorem dX10_read_38 : decode cX10_read 38 = .ok (.ifCond .eq 17, 3) := by decide +kernel
theorem dX10_read_41 : decode cX10_read 41 = .ok (.aload_n 0, 1) := by decide +kernel
theorem dX10_read_42 : decode cX10_read 42 = .ok (.getfield 127, 3) := by decide +kernel
theorem dX10_read_45 : decode cX10_read 45 = .ok (.iconst 4, 1) := by decide +kernel
theorem dX10_read_46 : decode cX10_read 46 = .ok (.aload_n 0, 1) := by decide +kernel
theorem dX10_read_47 : decode cX10_read 47 = .ok (.getfield 118, 3) := by decide +kernel
theorem dX10_read_50 : decode cX10_read 50 = .ok (.imul, 1) := by decide +kernel
theorem dX10_read_51 : decode cX10_read 51 = .ok (.iadd, 1) := by decide +kernel
theorem dX10_read_52 : decode cX10_read 52 = .ok (.goto 12, 3) := by decide +kernel
theorem dX10_read_55 : decode cX10_read 55 = .ok (.aload_n 0, 1) := by decide +kernel
theorem dX10_read_56 : decode cX10_read 56 = .ok (.getfield 127, 3) := by decide +kernel
theorem dX10_read_59 : decode cX10_read 59 = .ok (.aload_n 0, 1) := by decide +kernel
theorem dX10_read_60 : decode cX10_read 60 = .ok (.getfield 118, 3) := by decide +kernel
theorem dX10_read_63 : decode cX10_read 63 = .ok (.iadd, 1) := by decide +kernel
theorem dX10_read_64 : decode cX10_read 64 = .ok (.istore 4, 2) := by decide +kernel
theorem dX10_read_66 : decode cX10_read 66 = .ok (.lconst 0, 1) := by decide +kernel
theorem dX10_read_67 : decode cX10_read 67 = .ok (.lstore 5, 2) := by decide +kernel
theorem dX10_read_69 : decode cX10_read 69 = .ok (.aload_n 0, 1) := by decide +kernel
theorem dX10_read_70 : decode cX10_read 70 = .ok (.getfield 62, 3) := by decide +kernel
theorem dX10_read_73 : decode cX10_read 73 = .ok (.ifCond .le 94, 3) := by decide +kernel
theorem dX10_read_76 : decode cX10_read 76 = .ok (.iload 4, 2) := by decide +kernel
theorem dX10_read_78 : decode cX10_read 78 = .ok (.iload_n 2, 1) := by decide +kernel
theorem dX10_read_79 : decode cX10_read 79 = .ok (.ifCond .eq 9, 3) := by decide +kernel
theorem dX10_read_82 : decode cX10_read 82 = .ok (.sipush 1100, 3) := by decide +kernel
theorem dX10_read_85 : decode cX10_read 85 = .ok (.goto 6, 3) := by decide +kernel
theorem dX10_read_88 : decode cX10_read 88 = .ok (.sipush 400, 3) := by decide +kernel
theorem dX10_read_91 : decode cX10_read 91 = .ok (.if_icmp .le 12, 3) := by decide +kernel
theorem dX10_read_94 : decode cX10_read 94 = .ok (.iload_n 1, 1) := by decide +kernel
theorem dX10_read_95 : decode cX10_read 95 = .ok (.invokestatic 100, 3) := by decide +kernel
theorem dX10_read_98 : decode cX10_read 98 = .ok (.lconst 1, 1) := by decide +kernel
theorem dX10_read_99 : decode cX10_read 99 = .ok (.ladd, 1) := by decide +kernel
theorem dX10_read_100 : decode cX10_read 100 = .ok (.goto 31, 3) := by decide +kernel
theorem dX10_read_103 : decode cX10_read 103 = .ok (.iload 4, 2) := by decide +kernel
theorem dX10_read_105 : decode cX10_read 105 = .ok (.iload_n 2, 1) := by decide +kernel
theorem dX10_read_106 : decode cX10_read 106 = .ok (.ifCond .eq 9, 3) := by decide +kernel
theorem dX10_read_109 : decode cX10_read 109 = .ok (.sipush (-1200), 3) := by decide +kernel
theorem dX10_read_112 : decode cX10_read 112 = .ok (.goto 6, 3) := by decide +kernel
theorem dX10_read_115 : decode cX10_read 115 = .ok (.sipush (-400), 3) := by decide +kernel
theorem dX10_read_118 : decode cX10_read 118 = .ok (.if_icmp .ge 7, 3) := by decide +kernel
theorem dX10_read_121 : decode cX10_read 121 = .ok (.lconst 0, 1) := by decide +kernel
theorem dX10_read_122 : decode cX10_read 122 = .ok (.goto 9, 3) := by decide +kernel
theorem dX10_read_125 : decode cX10_read 125 = .ok (.aload_n 0, 1) := by decide +kernel
theorem dX10_read_126 : decode cX10_read 126 = .ok (.iload_n 2, 1) := by decide +kernel
theorem dX10_read_127 : decode cX10_read 127 = .ok (.iload_n 1, 1) := by decide +kernel
theorem dX10_read_128 : decode cX10_read 128 = .ok (.invokevirtual 148, 3) := by decide +kernel
theorem dX10_read_131 : decode cX10_read 131 = .ok (.lstore 5, 2) := by decide +kernel
theorem dX10_read_133 : decode cX10_read 133 = .ok (.lload 5, 2) := by decide +kernel
theorem dX10_read_135 : decode cX10_read 135 = .ok (.lconst 0, 1) := by decide +kernel
theorem dX10_read_136 : decode cX10_read 136 = .ok (.lcmp, 1) := by decide +kernel
theorem dX10_read_137 : decode cX10_read 137 = .ok (.ifCond .eq 13, 3) := by decide +kernel
theorem dX10_read_140 : decode cX10_read 140 = .ok (.lload 5, 2) := by decide +kernel
theorem dX10_read_142 : decode cX10_read 142 = .ok (.iload_n 1, 1) := by decide +kernel
theorem dX10_read_143 : decode cX10_read 143 = .ok (.invokestatic 100, 3) := by decide +kernel
theorem dX10_read_146 : decode cX10_read 146 = .ok (.lcmp, 1) := by decide +kernel
theorem dX10_read_147 : decode cX10_read 147 = .ok (.ifCond .le 20, 3) := by decide +kernel
theorem dX10_read_150 : decode cX10_read 150 = .ok (.aload_n 0, 1) := by decide +kernel
theorem dX10_read_151 : decode cX10_read 151 = .ok (.dup, 1) := by decide +kernel
theorem dX10_read_152 : decode cX10_read 152 = .ok (.getfield 152, 3) := by decide +kernel
theorem dX10_read_155 : decode cX10_read 155 = .ok (.iconst 1, 1) := by decide +kernel
theorem dX10_read_156 : decode cX10_read 156 = .ok (.iadd, 1) := by decide +kernel
theorem dX10_read_157 : decode cX10_read 157 = .ok (.putfield 152, 3) := by decide +kernel
theorem dX10_read_160 : decode cX10_read 160 = .ok (.aload_n 0, 1) := by decide +kernel
theorem dX10_read_161 : decode cX10_read 161 = .ok (.iconst 2, 1) := by decide +kernel
theorem dX10_read_162 : decode cX10_read 162 = .ok (.invokevirtual 42, 3) := by decide +kernel
theorem dX10_read_165 : decode cX10_read 165 = .ok (.i2l, 1) := by decide +kernel
theorem dX10_read_166 : decode cX10_read 166 = .ok (.lreturn, 1) := by decide +kernel
theorem dX10_read_167 : decode cX10_read 167 = .ok (.aload_n 0, 1) := by decide +kernel
theorem dX10_read_168 : decode cX10_read 168 = .ok (.iconst 0, 1) := by decide +kernel
theorem dX10_read_169 : decode cX10_read 169 = .ok (.putfield 34, 3) := by decide +kernel
theorem dX10_read_172 : decode cX10_read 172 = .ok (.aload_n 0, 1) := by decide +kernel
theorem dX10_read_173 : decode cX10_read 173 = .ok (.dup, 1) := by decide +kernel
theorem dX10_read_174 : decode cX10_read 174 = .ok (.getfield 155, 3) := by decide +kernel
theorem dX10_read_177 : decode cX10_read 177 = .ok (.iconst 1, 1) := by decide +kernel
theorem dX10_read_178 : decode cX10_read 178 = .ok (.iadd, 1) := by decide +kernel
theorem dX10_read_179 : decode cX10_read 179 = .ok (.putfield 155, 3) := by decide +kernel
theorem dX10_read_182 : decode cX10_read 182 = .ok (.lload 5, 2) := by decide +kernel
theorem dX10_read_184 : decode cX10_read 184 = .ok (.lreturn, 1) := by decide +kernel
set_option maxRecDepth 20000 in
theorem ggX10_found_X10_set : GoodIn wsX10_found wsX10_set := goodIn_r _ [10, 11, 12, 13, 9, 14] rfl (by decide +kernel)
set_option maxRecDepth 20000 in
theorem gX10_found_X10_set : GoodIn wsX10_found (va_wsS RX10 158 yX10_set wsX10_set) := goodIn_app (goodIn_of _ (by decide +kernel)) ggX10_found_X10_set
set_option maxRecDepth 20000 in
theorem ggX10_found_X10_fives : GoodIn wsX10_found wsX10_fives := goodIn_r _ [17, 18, 19, 9, 20, 11, 12, 13, 14] rfl (by decide +kernel)
set_option maxRecDepth 20000 in
theorem gX10_found_X10_fives : GoodIn wsX10_found (va_wsS RX10 162 yX10_fives wsX10_fives) := goodIn_app (goodIn_of _ (by decide +kernel)) ggX10_found_X10_fives
set_option maxRecDepth 20000 in
theorem ggX10_found_X10_nearest : GoodIn wsX10_found wsX10_nearest := goodIn_r _ [24, 25, 26, 27, 9, 28, 29, 30, 31, 32, 33, 34, 35, 36, 37, 38, 39, 40, 4, 6, 41, 5, 42, 1, 2, 43, 44, 45, 46, 47, 18, 19, 20, 11, 12, 13, 14, 48, 49, 50, 51, 52, 53, 54, 55, 56, 57, 58, 59, 60, 61, 62, 63, 64, 65, 66, 67, 68, 69, 70, 71, 72, 73, 74, 75, 76, 77, 78, 79, 80, 81] rfl (by decide +kernel)
set_option maxRecDepth 20000 in
theorem gX10_found_X10_nearest : GoodIn wsX10_found (wsV RX10 165 RX10 yX10_nearest wsX10_nearest) := goodIn_app (goodIn_of _ (by decide +kernel)) ggX10_found_X10_nearest
theorem dX10_found_0 : decode cX10_found 0 = .ok (.aload_n 0, 1) := by decide +kernel
theorem dX10_found_1 : decode cX10_found 1 = .ok (.aload_n 0, 1) := by decide +kernel
theorem dX10_found_2 : decode cX10_found 2 = .ok (.getfield 19, 3) := by decide +kernel
theorem dX10_found_5 : decode cX10_found 5 = .ok (.lconst 1, 1) := by decide +kernel
theorem dX10_found_6 : decode cX10_found 6 = .ok (.invokestatic 158, 3) := by decide +kernel
theorem dX10_found_9 : decode cX10_found 9 = .ok (.putfield 72, 3) := by decide +kernel
theorem dX10_found_12 : decode cX10_found 12 = .ok (.aload_n 0, 1) := by decide +kernel
theorem dX10_found_13 : decode cX10_found 13 = .ok (.aload_n 0, 1) := by decide +kernel
theorem dX10_found_14 : decode cX10_found 14 = .ok (.getfield 127, 3) := by decide +kernel
theorem dX10_found_17 : decode cX10_found 17 = .ok (.putfield 59, 3) := by decide +kernel
theorem dX10_found_20 : decode cX10_found 20 = .ok (.iload_n 1, 1) := by decide +kernel
theorem dX10_found_21 : decode cX10_found 21 = .ok (.ifCond .ne 29, 3) := by decide +kernel
theorem dX10_found_24 : decode cX10_found 24 = .ok (.aload_n 0, 1) := by decide +kernel
theorem dX10_found_25 : decode cX10_found 25 = .ok (.getfield 127, 3) := by decide +kernel
theorem dX10_found_28 : decode cX10_found 28 = .ok (.ifCond .le 22, 3) := by decide +kernel
theorem dX10_found_31 : decode cX10_found 31 = .ok (.aload_n 0, 1) := by decide +kernel
theorem dX10_found_32 : decode cX10_found 32 = .ok (.aload_n 0, 1) := by decide +kernel
theorem dX10_found_33 : decode cX10_found 33 = .ok (.getfield 16, 3) := by decide +kernel
theorem dX10_found_36 : decode cX10_found 36 = .ok (.aload_n 0, 1) := by decide +kernel
theorem dX10_found_37 : decode cX10_found 37 = .ok (.getfield 62, 3) := by decide +kernel
theorem dX10_found_40 : decode cX10_found 40 = .ok (.aload_n 0, 1) := by decide +kernel
theorem dX10_found_41 : decode cX10_found 41 = .ok (.getfield 127, 3) := by decide +kernel
theorem dX10_found_44 : decode cX10_found 44 = .ok (.invokestatic 162, 3) := by decide +kernel
theorem dX10_found_47 : decode cX10_found 47 = .ok (.putfield 62, 3) := by decide +kernel
theorem dX10_found_50 : decode cX10_found 50 = .ok (.iload_n 1, 1) := by decide +kernel
theorem dX10_found_51 : decode cX10_found 51 = .ok (.ifCond .ne 30, 3) := by decide +kernel
theorem dX10_found_54 : decode cX10_found 54 = .ok (.aload_n 0, 1) := by decide +kernel
theorem dX10_found_55 : decode cX10_found 55 = .ok (.getfield 127, 3) := by decide +kernel
theorem dX10_found_58 : decode cX10_found 58 = .ok (.ifCond .ge 23, 3) := by decide +kernel
theorem dX10_found_61 : decode cX10_found 61 = .ok (.aload_n 0, 1) := by decide +kernel
theorem dX10_found_62 : decode cX10_found 62 = .ok (.aload_n 0, 1) := by decide +kernel
theorem dX10_found_63 : decode cX10_found 63 = .ok (.getfield 19, 3) := by decide +kernel
theorem dX10_found_66 : decode cX10_found 66 = .ok (.aload_n 0, 1) := by decide +kernel
theorem dX10_found_67 : decode cX10_found 67 = .ok (.getfield 72, 3) := by decide +kernel
theorem dX10_found_70 : decode cX10_found 70 = .ok (.aload_n 0, 1) := by decide +kernel
theorem dX10_found_71 : decode cX10_found 71 = .ok (.getfield 127, 3) := by decide +kernel
theorem dX10_found_74 : decode cX10_found 74 = .ok (.ineg, 1) := by decide +kernel
theorem dX10_found_75 : decode cX10_found 75 = .ok (.invokestatic 162, 3) := by decide +kernel
theorem dX10_found_78 : decode cX10_found 78 = .ok (.putfield 72, 3) := by decide +kernel
theorem dX10_found_81 : decode cX10_found 81 = .ok (.aload_n 0, 1) := by decide +kernel
theorem dX10_found_82 : decode cX10_found 82 = .ok (.iload_n 2, 1) := by decide +kernel
theorem dX10_found_83 : decode cX10_found 83 = .ok (.invokevirtual 165, 3) := by decide +kernel
theorem dX10_found_86 : decode cX10_found 86 = .ok (.lreturn, 1) := by decide +kernel
set_option maxRecDepth 20000 in
theorem ggX10_read__X10_read : GoodIn wsX10_read_ wsX10_read := goodIn_r _ [9, 2, 10, 11, 12, 13, 14, 4, 15, 16, 17, 18, 8, 19, 3, 20, 21, 22, 23, 24, 25, 26, 27, 28, 29, 30, 31, 32, 33, 34, 35, 36, 37, 38, 39, 40, 41, 42, 43, 44, 45, 46, 47, 48, 49, 50, 51, 52, 53, 54, 55, 56, 57, 58, 59, 60, 61, 62, 63, 64, 65, 66, 67, 68, 69, 70, 71, 72, 73, 74, 75, 76, 77, 78, 79, 80, 81, 82, 83, 84, 85, 86, 87, 88, 89, 90, 91, 92, 93, 94, 95, 96, 97, 98, 99, 100, 101, 102, 103, 104, 105, 106, 107, 108, 109, 110, 111, 112, 113, 114, 115, 116, 117, 118, 119, 120, 121, 122, 123, 124, 125, 126, 127, 128, 129, 130, 131] rfl (by decide +kernel)
set_option maxRecDepth 20000 in
theorem gX10_read__X10_read : GoodIn wsX10_read_ (wsV RX10 237 RX10 yX10_read wsX10_read) := goodIn_app (goodIn_of _ (by decide +kernel)) ggX10_read__X10_read
theorem dX10_read__0 : decode cX10_read_ 0 = .ok (.iload_n 3, 1) := by decide +kernel
theorem dX10_read__1 : decode cX10_read_ 1 = .ok (.iload_n 2, 1) := by decide +kernel
theorem dX10_read__2 : decode cX10_read_ 2 = .ok (.isub, 1) := by decide +kernel
theorem dX10_read__3 : decode cX10_read_ 3 = .ok (.sipush 1200, 3) := by decide +kernel
theorem dX10_read__6 : decode cX10_read_ 6 = .ok (.if_icmp .le 7, 3) := by decide +kernel
theorem dX10_read__9 : decode cX10_read_ 9 = .ok (.ldc2_w 235, 3) := by decide +kernel
theorem dX10_read__12 : decode cX10_read_ 12 = .ok (.lreturn, 1) := by decide +kernel
theorem dX10_read__13 : decode cX10_read_ 13 = .ok (.aload_n 0, 1) := by decide +kernel
theorem dX10_read__14 : decode cX10_read_ 14 = .ok (.iconst 0, 1) := by decide +kernel
theorem dX10_read__15 : decode cX10_read_ 15 = .ok (.putfield 46, 3) := by decide +kernel
theorem dX10_read__18 : decode cX10_read_ 18 = .ok (.iload_n 2, 1) := by decide +kernel
theorem dX10_read__19 : decode cX10_read_ 19 = .ok (.istore 5, 2) := by decide +kernel
theorem dX10_read__21 : decode cX10_read_ 21 = .ok (.iload 5, 2) := by decide +kernel
theorem dX10_read__23 : decode cX10_read_ 23 = .ok (.iload_n 3, 1) := by decide +kernel
theorem dX10_read__24 : decode cX10_read_ 24 = .ok (.if_icmp .ge 32, 3) := by decide +kernel
theorem dX10_read__27 : decode cX10_read_ 27 = .ok (.aload_n 0, 1) := by decide +kernel
theorem dX10_read__28 : decode cX10_read_ 28 = .ok (.getfield 7, 3) := by decide +kernel
theorem dX10_read__31 : decode cX10_read_ 31 = .ok (.aload_n 0, 1) := by decide +kernel
theorem dX10_read__32 : decode cX10_read_ 32 = .ok (.getfield 46, 3) := by decide +kernel
theorem dX10_read__35 : decode cX10_read_ 35 = .ok (.aload_n 1, 1) := by decide +kernel
theorem dX10_read__36 : decode cX10_read_ 36 = .ok (.iload 5, 2) := by decide +kernel
theorem dX10_read__38 : decode cX10_read_ 38 = .ok (.iaload, 1) := by decide +kernel
theorem dX10_read__39 : decode cX10_read_ 39 = .ok (.iastore, 1) := by decide +kernel
theorem dX10_read__40 : decode cX10_read_ 40 = .ok (.aload_n 0, 1) := by decide +kernel
theorem dX10_read__41 : decode cX10_read_ 41 = .ok (.dup, 1) := by decide +kernel
theorem dX10_read__42 : decode cX10_read_ 42 = .ok (.getfield 46, 3) := by decide +kernel
theorem dX10_read__45 : decode cX10_read_ 45 = .ok (.iconst 1, 1) := by decide +kernel
theorem dX10_read__46 : decode cX10_read_ 46 = .ok (.iadd, 1) := by decide +kernel
theorem dX10_read__47 : decode cX10_read_ 47 = .ok (.putfield 46, 3) := by decide +kernel
theorem dX10_read__50 : decode cX10_read_ 50 = .ok (.iinc 5 1, 3) := by decide +kernel
theorem dX10_read__53 : decode cX10_read_ 53 = .ok (.goto (-32), 3) := by decide +kernel
theorem dX10_read__56 : decode cX10_read_ 56 = .ok (.aload_n 0, 1) := by decide +kernel
theorem dX10_read__57 : decode cX10_read_ 57 = .ok (.iload 4, 2) := by decide +kernel
theorem dX10_read__59 : decode cX10_read_ 59 = .ok (.invokevirtual 237, 3) := by decide +kernel
theorem dX10_read__62 : decode cX10_read_ 62 = .ok (.lstore 5, 2) := by decide +kernel
theorem dX10_read__64 : decode cX10_read_ 64 = .ok (.aload_n 0, 1) := by decide +kernel
theorem dX10_read__65 : decode cX10_read_ 65 = .ok (.getfield 34, 3) := by decide +kernel
theorem dX10_read__68 : decode cX10_read_ 68 = .ok (.ifCond .ne 8, 3) := by decide +kernel
theorem dX10_read__71 : decode cX10_read_ 71 = .ok (.lload 5, 2) := by decide +kernel
theorem dX10_read__73 : decode cX10_read_ 73 = .ok (.goto 6, 3) := by decide +kernel
theorem dX10_read__76 : decode cX10_read_ 76 = .ok (.ldc2_w 235, 3) := by decide +kernel
theorem dX10_read__79 : decode cX10_read_ 79 = .ok (.lreturn, 1) := by decide +kernel
set_option maxRecDepth 20000 in
theorem ggX11_init_X10_init : GoodIn wsX11_init wsX10_init := goodIn_r _ [25, 26, 2, 3, 12, 27, 28, 29, 30, 31, 32, 33, 34, 35, 36, 37, 38, 39, 40, 41, 42, 43, 44, 45, 46, 47, 48, 49, 50, 51, 52, 53, 54, 55, 56, 57, 58, 59, 60] rfl (by decide +kernel)
set_option maxRecDepth 20000 in
theorem gX11_init_X10_init : GoodIn wsX11_init (wsX10_init) := ggX11_init_X10_init
theorem dX11_init_0 : decode cX11_init 0 = .ok (.aload_n 0, 1) := by decide +kernel
theorem dX11_init_1 : decode cX11_init 1 = .ok (.invokespecial 1, 3) := by decide +kernel
theorem dX11_init_4 : decode cX11_init 4 = .ok (.aload_n 0, 1) := by decide +kernel
theorem dX11_init_5 : decode cX11_init 5 = .ok (.new 7, 3) := by decide +kernel
theorem dX11_init_8 : decode cX11_init 8 = .ok (.dup, 1) := by decide +kernel
theorem dX11_init_9 : decode cX11_init 9 = .ok (.invokespecial 9, 3) := by decide +kernel
theorem dX11_init_12 : decode cX11_init 12 = .ok (.putfield 10, 3) := by decide +kernel
theorem dX11_init_15 : decode cX11_init 15 = .ok (.aload_n 0, 1) := by decide +kernel
theorem dX11_init_16 : decode cX11_init 16 = .ok (.ldc 16, 2) := by decide +kernel
theorem dX11_init_18 : decode cX11_init 18 = .ok (.newarray .byte, 2) := by decide +kernel
theorem dX11_init_20 : decode cX11_init 20 = .ok (.putfield 17, 3) := by decide +kernel
theorem dX11_init_23 : decode cX11_init 23 = .ok (.aload_n 0, 1) := by decide +kernel
theorem dX11_init_24 : decode cX11_init 24 = .ok (.ldc 21, 2) := by decide +kernel
theorem dX11_init_26 : decode cX11_init 26 = .ok (.newarray .int, 2) := by decide +kernel
theorem dX11_init_28 : decode cX11_init 28 = .ok (.putfield 22, 3) := by decide +kernel
theorem dX11_init_31 : decode cX11_init 31 = .ok (.aload_n 0, 1) := by decide +kernel
theorem dX11_init_32 : decode cX11_init 32 = .ok (.sipush 8193, 3) := by decide +kernel
theorem dX11_init_35 : decode cX11_init 35 = .ok (.newarray .int, 2) := by decide +kernel
theorem dX11_init_37 : decode cX11_init 37 = .ok (.putfield 26, 3) := by decide +kernel
theorem dX11_init_40 : decode cX11_init 40 = .ok (.aload_n 0, 1) := by decide +kernel
theorem dX11_init_41 : decode cX11_init 41 = .ok (.sipush 8193, 3) := by decide +kernel
theorem dX11_init_44 : decode cX11_init 44 = .ok (.newarray .boolean, 2) := by decide +kernel
theorem dX11_init_46 : decode cX11_init 46 = .ok (.putfield 29, 3) := by decide +kernel
theorem dX11_init_49 : decode cX11_init 49 = .ok (.aload_n 0, 1) := by decide +kernel
theorem dX11_init_50 : decode cX11_init 50 = .ok (.sipush 8193, 3) := by decide +kernel
theorem dX11_init_53 : decode cX11_init 53 = .ok (.newarray .long, 2) := by decide +kernel
theorem dX11_init_55 : decode cX11_init 55 = .ok (.putfield 33, 3) := by decide +kernel
theorem dX11_init_58 : decode cX11_init 58 = .ok (.aload_n 0, 1) := by decide +kernel
theorem dX11_init_59 : decode cX11_init 59 = .ok (.ldc 16, 2) := by decide +kernel
theorem dX11_init_61 : decode cX11_init 61 = .ok (.newarray .int, 2) := by decide +kernel
theorem dX11_init_63 : decode cX11_init 63 = .ok (.putfield 37, 3) := by decide +kernel
theorem dX11_init_66 : decode cX11_init 66 = .ok (.aload_n 0, 1) := by decide +kernel
theorem dX11_init_67 : decode cX11_init 67 = .ok (.sipush 8193, 3) := by decide +kernel
theorem dX11_init_70 : decode cX11_init 70 = .ok (.newarray .int, 2) := by decide +kernel
theorem dX11_init_72 : decode cX11_init 72 = .ok (.putfield 40, 3) := by decide +kernel
theorem dX11_init_75 : decode cX11_init 75 = .ok (.aload_n 0, 1) := by decide +kernel
theorem dX11_init_76 : decode cX11_init 76 = .ok (.sipush 8193, 3) := by decide +kernel
theorem dX11_init_79 : decode cX11_init 79 = .ok (.newarray .int, 2) := by decide +kernel
theorem dX11_init_81 : decode cX11_init 81 = .ok (.putfield 43, 3) := by decide +kernel
theorem dX11_init_84 : decode cX11_init 84 = .ok (.aload_n 0, 1) := by decide +kernel
theorem dX11_init_85 : decode cX11_init 85 = .ok (.iconst (-1), 1) := by decide +kernel
theorem dX11_init_86 : decode cX11_init 86 = .ok (.putfield 46, 3) := by decide +kernel
theorem dX11_init_89 : decode cX11_init 89 = .ok (.return_, 1) := by decide +kernel
theorem dX11_thrown_0 : decode cX11_thrown 0 = .ok (.aload_n 0, 1) := by decide +kernel
theorem dX11_thrown_1 : decode cX11_thrown 1 = .ok (.getfield 50, 3) := by decide +kernel
theorem dX11_thrown_4 : decode cX11_thrown 4 = .ok (.ireturn, 1) := by decide +kernel
theorem dX11_fails_0 : decode cX11_fails 0 = .ok (.aload_n 0, 1) := by decide +kernel
theorem dX11_fails_1 : decode cX11_fails 1 = .ok (.iload_n 1, 1) := by decide +kernel
theorem dX11_fails_2 : decode cX11_fails 2 = .ok (.putfield 50, 3) := by decide +kernel
theorem dX11_fails_5 : decode cX11_fails 5 = .ok (.iconst 0, 1) := by decide +kernel
theorem dX11_fails_6 : decode cX11_fails 6 = .ok (.ireturn, 1) := by decide +kernel
theorem dX11_add_0 : decode cX11_add 0 = .ok (.bipush 24, 2) := by decide +kernel
theorem dX11_add_2 : decode cX11_add 2 = .ok (.istore_n 2, 1) := by decide +kernel
theorem dX11_add_3 : decode cX11_add 3 = .ok (.iload_n 2, 1) := by decide +kernel
theorem dX11_add_4 : decode cX11_add 4 = .ok (.ifCond .lt 32, 3) := by decide +kernel
theorem dX11_add_7 : decode cX11_add 7 = .ok (.aload_n 0, 1) := by decide +kernel
theorem dX11_add_8 : decode cX11_add 8 = .ok (.getfield 17, 3) := by decide +kernel
theorem dX11_add_11 : decode cX11_add 11 = .ok (.aload_n 0, 1) := by decide +kernel
theorem dX11_add_12 : decode cX11_add 12 = .ok (.getfield 53, 3) := by decide +kernel
theorem dX11_add_15 : decode cX11_add 15 = .ok (.iload_n 1, 1) := by decide +kernel
theorem dX11_add_16 : decode cX11_add 16 = .ok (.iload_n 2, 1) := by decide +kernel
theorem dX11_add_17 : decode cX11_add 17 = .ok (.ishr, 1) := by decide +kernel
theorem dX11_add_18 : decode cX11_add 18 = .ok (.i2b, 1) := by decide +kernel
theorem dX11_add_19 : decode cX11_add 19 = .ok (.bastore, 1) := by decide +kernel
theorem dX11_add_20 : decode cX11_add 20 = .ok (.aload_n 0, 1) := by decide +kernel
theorem dX11_add_21 : decode cX11_add 21 = .ok (.dup, 1) := by decide +kernel
theorem dX11_add_22 : decode cX11_add 22 = .ok (.getfield 53, 3) := by decide +kernel
theorem dX11_add_25 : decode cX11_add 25 = .ok (.iconst 1, 1) := by decide +kernel
theorem dX11_add_26 : decode cX11_add 26 = .ok (.iadd, 1) := by decide +kernel
theorem dX11_add_27 : decode cX11_add 27 = .ok (.putfield 53, 3) := by decide +kernel
theorem dX11_add_30 : decode cX11_add 30 = .ok (.iinc 2 (-8), 3) := by decide +kernel
theorem dX11_add_33 : decode cX11_add 33 = .ok (.goto (-30), 3) := by decide +kernel
theorem dX11_add_36 : decode cX11_add 36 = .ok (.return_, 1) := by decide +kernel
set_option maxRecDepth 20000 in
theorem ggX11_feed_X11_fails : GoodIn wsX11_feed wsX11_fails := goodIn_r _ [8, 3, 14, 15, 16, 17, 18, 19, 20, 21, 22, 23, 24, 25, 26, 27, 28, 29, 30, 31, 32, 33, 34] rfl (by decide +kernel)
set_option maxRecDepth 20000 in
theorem gX11_feed_X11_fails : GoodIn wsX11_feed (wsV RX11 56 RX11 yX11_fails wsX11_fails) := goodIn_app (goodIn_of _ (by decide +kernel)) ggX11_feed_X11_fails
set_option maxRecDepth 20000 in
theorem ggX11_feed_X11_add : GoodIn wsX11_feed wsX11_add := goodIn_r _ [12, 13, 1, 14, 15, 16, 17, 18, 19, 20, 21, 22, 23, 24, 25, 26, 27, 28, 29, 30, 31, 32, 33, 34] rfl (by decide +kernel)
set_option maxRecDepth 20000 in
theorem gX11_feed_X11_add : GoodIn wsX11_feed (wsV RX11 60 RX11 yX11_add wsX11_add) := goodIn_app (goodIn_of _ (by decide +kernel)) ggX11_feed_X11_add
theorem dX11_feed_0 : decode cX11_feed 0 = .ok (.aload_n 0, 1) := by decide +kernel
theorem dX11_feed_1 : decode cX11_feed 1 = .ok (.getfield 53, 3) := by decide +kernel
theorem dX11_feed_4 : decode cX11_feed 4 = .ok (.bipush 20, 2) := by decide +kernel
theorem dX11_feed_6 : decode cX11_feed 6 = .ok (.iadd, 1) := by decide +kernel
theorem dX11_feed_7 : decode cX11_feed 7 = .ok (.ldc 16, 2) := by decide +kernel
theorem dX11_feed_9 : decode cX11_feed 9 = .ok (.if_icmp .le 9, 3) := by decide +kernel
theorem dX11_feed_12 : decode cX11_feed 12 = .ok (.aload_n 0, 1) := by decide +kernel
theorem dX11_feed_13 : decode cX11_feed 13 = .ok (.iconst 1, 1) := by decide +kernel
theorem dX11_feed_14 : decode cX11_feed 14 = .ok (.invokevirtual 56, 3) := by decide +kernel
theorem dX11_feed_17 : decode cX11_feed 17 = .ok (.ireturn, 1) := by decide +kernel
theorem dX11_feed_18 : decode cX11_feed 18 = .ok (.aload_n 0, 1) := by decide +kernel
theorem dX11_feed_19 : decode cX11_feed 19 = .ok (.iconst 0, 1) := by decide +kernel
theorem dX11_feed_20 : decode cX11_feed 20 = .ok (.putfield 50, 3) := by decide +kernel
theorem dX11_feed_23 : decode cX11_feed 23 = .ok (.aload_n 0, 1) := by decide +kernel
theorem dX11_feed_24 : decode cX11_feed 24 = .ok (.iload_n 1, 1) := by decide +kernel
theorem dX11_feed_25 : decode cX11_feed 25 = .ok (.invokevirtual 60, 3) := by decide +kernel
theorem dX11_feed_28 : decode cX11_feed 28 = .ok (.aload_n 0, 1) := by decide +kernel
theorem dX11_feed_29 : decode cX11_feed 29 = .ok (.iload_n 2, 1) := by decide +kernel
theorem dX11_feed_30 : decode cX11_feed 30 = .ok (.invokevirtual 60, 3) := by decide +kernel
theorem dX11_feed_33 : decode cX11_feed 33 = .ok (.aload_n 0, 1) := by decide +kernel
theorem dX11_feed_34 : decode cX11_feed 34 = .ok (.iload_n 3, 1) := by decide +kernel
theorem dX11_feed_35 : decode cX11_feed 35 = .ok (.invokevirtual 60, 3) := by decide +kernel
theorem dX11_feed_38 : decode cX11_feed 38 = .ok (.aload_n 0, 1) := by decide +kernel
theorem dX11_feed_39 : decode cX11_feed 39 = .ok (.iload 4, 2) := by decide +kernel
theorem dX11_feed_41 : decode cX11_feed 41 = .ok (.invokevirtual 60, 3) := by decide +kernel
theorem dX11_feed_44 : decode cX11_feed 44 = .ok (.aload_n 0, 1) := by decide +kernel
theorem dX11_feed_45 : decode cX11_feed 45 = .ok (.iload 5, 2) := by decide +kernel
theorem dX11_feed_47 : decode cX11_feed 47 = .ok (.invokevirtual 60, 3) := by decide +kernel
theorem dX11_feed_50 : decode cX11_feed 50 = .ok (.aload_n 0, 1) := by decide +kernel
theorem dX11_feed_51 : decode cX11_feed 51 = .ok (.getfield 53, 3) := by decide +kernel
theorem dX11_feed_54 : decode cX11_feed 54 = .ok (.ireturn, 1) := by decide +kernel
set_option maxRecDepth 20000 in
theorem ggX11_end_X11_fails : GoodIn wsX11_end wsX11_fails := goodIn_r _ [9, 3, 19, 20, 21, 22, 23, 24, 25, 26, 27, 28, 29, 30, 31, 32, 33, 34, 35, 36, 37, 38, 39] rfl (by decide +kernel)
set_option maxRecDepth 20000 in
theorem gX11_end_X11_fails : GoodIn wsX11_end (wsV RX11 56 RX11 yX11_fails wsX11_fails) := goodIn_app (goodIn_of _ (by decide +kernel)) ggX11_end_X11_fails
set_option maxRecDepth 20000 in
theorem ggX11_end_X11_translate : GoodIn wsX11_end wsX11_translate := goodIn_r _ [13, 14, 4, 2, 15, 16, 17, 8, 18, 19, 20, 21, 22, 23, 24, 25, 26, 27, 28, 29, 30, 31, 32, 33, 34, 35, 36, 37, 38, 39] rfl (by decide +kernel)
set_option maxRecDepth 20000 in
theorem gX11_end_X11_translate : GoodIn wsX11_end (wsV RX11 67 RX11 yX11_translate wsX11_translate) := goodIn_app (goodIn_of _ (by decide +kernel)) ggX11_end_X11_translate
theorem dX11_end_0 : decode cX11_end 0 = .ok (.iload_n 1, 1) := by decide +kernel
theorem dX11_end_1 : decode cX11_end 1 = .ok (.ifCond .lt 11, 3) := by decide +kernel
theorem dX11_end_4 : decode cX11_end 4 = .ok (.iload_n 1, 1) := by decide +kernel
theorem dX11_end_5 : decode cX11_end 5 = .ok (.aload_n 0, 1) := by decide +kernel
theorem dX11_end_6 : decode cX11_end 6 = .ok (.getfield 53, 3) := by decide +kernel
theorem dX11_end_9 : decode cX11_end 9 = .ok (.if_icmp .le 9, 3) := by decide +kernel
theorem dX11_end_12 : decode cX11_end 12 = .ok (.aload_n 0, 1) := by decide +kernel
theorem dX11_end_13 : decode cX11_end 13 = .ok (.iconst 1, 1) := by decide +kernel
theorem dX11_end_14 : decode cX11_end 14 = .ok (.invokevirtual 56, 3) := by decide +kernel
theorem dX11_end_17 : decode cX11_end 17 = .ok (.ireturn, 1) := by decide +kernel
theorem dX11_end_18 : decode cX11_end 18 = .ok (.iconst 0, 1) := by decide +kernel
theorem dX11_end_19 : decode cX11_end 19 = .ok (.istore_n 2, 1) := by decide +kernel
theorem dX11_end_20 : decode cX11_end 20 = .ok (.iload_n 2, 1) := by decide +kernel
theorem dX11_end_21 : decode cX11_end 21 = .ok (.iload_n 1, 1) := by decide +kernel
theorem dX11_end_22 : decode cX11_end 22 = .ok (.if_icmp .ge 24, 3) := by decide +kernel
theorem dX11_end_25 : decode cX11_end 25 = .ok (.aload_n 0, 1) := by decide +kernel
theorem dX11_end_26 : decode cX11_end 26 = .ok (.getfield 17, 3) := by decide +kernel
theorem dX11_end_29 : decode cX11_end 29 = .ok (.iload_n 2, 1) := by decide +kernel
theorem dX11_end_30 : decode cX11_end 30 = .ok (.baload, 1) := by decide +kernel
theorem dX11_end_31 : decode cX11_end 31 = .ok (.ifCond .gt 9, 3) := by decide +kernel
theorem dX11_end_34 : decode cX11_end 34 = .ok (.aload_n 0, 1) := by decide +kernel
theorem dX11_end_35 : decode cX11_end 35 = .ok (.iconst 1, 1) := by decide +kernel
theorem dX11_end_36 : decode cX11_end 36 = .ok (.invokevirtual 56, 3) := by decide +kernel
theorem dX11_end_39 : decode cX11_end 39 = .ok (.ireturn, 1) := by decide +kernel
theorem dX11_end_40 : decode cX11_end 40 = .ok (.iinc 2 1, 3) := by decide +kernel
theorem dX11_end_43 : decode cX11_end 43 = .ok (.goto (-23), 3) := by decide +kernel
theorem dX11_end_46 : decode cX11_end 46 = .ok (.aload_n 0, 1) := by decide +kernel
theorem dX11_end_47 : decode cX11_end 47 = .ok (.iconst 0, 1) := by decide +kernel
theorem dX11_end_48 : decode cX11_end 48 = .ok (.putfield 50, 3) := by decide +kernel
theorem dX11_end_51 : decode cX11_end 51 = .ok (.aload_n 0, 1) := by decide +kernel
theorem dX11_end_52 : decode cX11_end 52 = .ok (.iload_n 1, 1) := by decide +kernel
theorem dX11_end_53 : decode cX11_end 53 = .ok (.putfield 64, 3) := by decide +kernel
theorem dX11_end_56 : decode cX11_end 56 = .ok (.aload_n 0, 1) := by decide +kernel
theorem dX11_end_57 : decode cX11_end 57 = .ok (.iconst 0, 1) := by decide +kernel
theorem dX11_end_58 : decode cX11_end 58 = .ok (.putfield 53, 3) := by decide +kernel
theorem dX11_end_61 : decode cX11_end 61 = .ok (.aload_n 0, 1) := by decide +kernel
theorem dX11_end_62 : decode cX11_end 62 = .ok (.invokevirtual 67, 3) := by decide +kernel
theorem dX11_end_65 : decode cX11_end 65 = .ok (.iload_n 1, 1) := by decide +kernel
theorem dX11_end_66 : decode cX11_end 66 = .ok (.ireturn, 1) := by decide +kernel
theorem dX11_digit_0 : decode cX11_digit 0 = .ok (.iload_n 0, 1) := by decide +kernel
theorem dX11_digit_1 : decode cX11_digit 1 = .ok (.bipush 48, 2) := by decide +kernel
theorem dX11_digit_3 : decode cX11_digit 3 = .ok (.if_icmp .lt 16, 3) := by decide +kernel
theorem dX11_digit_6 : decode cX11_digit 6 = .ok (.iload_n 0, 1) := by decide +kernel
theorem dX11_digit_7 : decode cX11_digit 7 = .ok (.bipush 57, 2) := by decide +kernel
theorem dX11_digit_9 : decode cX11_digit 9 = .ok (.if_icmp .gt 10, 3) := by decide +kernel
theorem dX11_digit_12 : decode cX11_digit 12 = .ok (.iload_n 0, 1) := by decide +kernel
theorem dX11_digit_13 : decode cX11_digit 13 = .ok (.bipush 48, 2) := by decide +kernel
theorem dX11_digit_15 : decode cX11_digit 15 = .ok (.isub, 1) := by decide +kernel
theorem dX11_digit_16 : decode cX11_digit 16 = .ok (.goto 49, 3) := by decide +kernel
theorem dX11_digit_19 : decode cX11_digit 19 = .ok (.iload_n 0, 1) := by decide +kernel
theorem dX11_digit_20 : decode cX11_digit 20 = .ok (.bipush 97, 2) := by decide +kernel
theorem dX11_digit_22 : decode cX11_digit 22 = .ok (.if_icmp .lt 19, 3) := by decide +kernel
theorem dX11_digit_25 : decode cX11_digit 25 = .ok (.iload_n 0, 1) := by decide +kernel
theorem dX11_digit_26 : decode cX11_digit 26 = .ok (.bipush 102, 2) := by decide +kernel
theorem dX11_digit_28 : decode cX11_digit 28 = .ok (.if_icmp .gt 13, 3) := by decide +kernel
theorem dX11_digit_31 : decode cX11_digit 31 = .ok (.iload_n 0, 1) := by decide +kernel
theorem dX11_digit_32 : decode cX11_digit 32 = .ok (.bipush 97, 2) := by decide +kernel
theorem dX11_digit_34 : decode cX11_digit 34 = .ok (.isub, 1) := by decide +kernel
theorem dX11_digit_35 : decode cX11_digit 35 = .ok (.bipush 10, 2) := by decide +kernel
theorem dX11_digit_37 : decode cX11_digit 37 = .ok (.iadd, 1) := by decide +kernel
theorem dX11_digit_38 : decode cX11_digit 38 = .ok (.goto 27, 3) := by decide +kernel
theorem dX11_digit_41 : decode cX11_digit 41 = .ok (.iload_n 0, 1) := by decide +kernel
theorem dX11_digit_42 : decode cX11_digit 42 = .ok (.bipush 65, 2) := by decide +kernel
theorem dX11_digit_44 : decode cX11_digit 44 = .ok (.if_icmp .lt 19, 3) := by decide +kernel
theorem dX11_digit_47 : decode cX11_digit 47 = .ok (.iload_n 0, 1) := by decide +kernel
theorem dX11_digit_48 : decode cX11_digit 48 = .ok (.bipush 70, 2) := by decide +kernel
theorem dX11_digit_50 : decode cX11_digit 50 = .ok (.if_icmp .gt 13, 3) := by decide +kernel
theorem dX11_digit_53 : decode cX11_digit 53 = .ok (.iload_n 0, 1) := by decide +kernel
theorem dX11_digit_54 : decode cX11_digit 54 = .ok (.bipush 65, 2) := by decide +kernel
theorem dX11_digit_56 : decode cX11_digit 56 = .ok (.isub, 1) := by decide +kernel
theorem dX11_digit_57 : decode cX11_digit 57 = .ok (.bipush 10, 2) := by decide +kernel
theorem dX11_digit_59 : decode cX11_digit 59 = .ok (.iadd, 1) := by decide +kernel
theorem dX11_digit_60 : decode cX11_digit 60 = .ok (.goto 5, 3) := by decide +kernel
theorem dX11_digit_63 : decode cX11_digit 63 = .ok (.bipush 99, 2) := by decide +kernel
theorem dX11_digit_65 : decode cX11_digit 65 = .ok (.istore_n 2, 1) := by decide +kernel
theorem dX11_digit_66 : decode cX11_digit 66 = .ok (.iload_n 2, 1) := by decide +kernel
theorem dX11_digit_67 : decode cX11_digit 67 = .ok (.iload_n 1, 1) := by decide +kernel
theorem dX11_digit_68 : decode cX11_digit 68 = .ok (.if_icmp .ge 7, 3) := by decide +kernel
theorem dX11_digit_71 : decode cX11_digit 71 = .ok (.iload_n 2, 1) := by decide +kernel
theorem dX11_digit_72 : decode cX11_digit 72 = .ok (.goto 4, 3) := by decide +kernel
theorem dX11_digit_75 : decode cX11_digit 75 = .ok (.iconst (-1), 1) := by decide +kernel
theorem dX11_digit_76 : decode cX11_digit 76 = .ok (.ireturn, 1) := by decide +kernel
set_option maxRecDepth 20000 in
theorem ggX11_translate_X11_digit : GoodIn wsX11_translate wsX11_digit := goodIn_r _ [8] rfl (by decide +kernel)
set_option maxRecDepth 20000 in
theorem gX11_translate_X11_digit : GoodIn wsX11_translate (va_wsS RX11 73 yX11_digit wsX11_digit) := goodIn_app (goodIn_of _ (by decide +kernel)) ggX11_translate_X11_digit
theorem dX11_translate_0 : decode cX11_translate 0 = .ok (.aload_n 0, 1) := by decide +kernel
theorem dX11_translate_1 : decode cX11_translate 1 = .ok (.iconst 0, 1) := by decide +kernel
theorem dX11_translate_2 : decode cX11_translate 2 = .ok (.putfield 70, 3) := by decide +kernel
theorem dX11_translate_5 : decode cX11_translate 5 = .ok (.iconst 0, 1) := by decide +kernel
theorem dX11_translate_6 : decode cX11_translate 6 = .ok (.istore_n 1, 1) := by decide +kernel
theorem dX11_translate_7 : decode cX11_translate 7 = .ok (.iconst 0, 1) := by decide +kernel
theorem dX11_translate_8 : decode cX11_translate 8 = .ok (.istore_n 2, 1) := by decide +kernel
theorem dX11_translate_9 : decode cX11_translate 9 = .ok (.iload_n 1, 1) := by decide +kernel
theorem dX11_translate_10 : decode cX11_translate 10 = .ok (.aload_n 0, 1) := by decide +kernel
theorem dX11_translate_11 : decode cX11_translate 11 = .ok (.getfield 64, 3) := by decide +kernel
theorem dX11_translate_14 : decode cX11_translate 14 = .ok (.if_icmp .ge 237, 3) := by decide +kernel
theorem dX11_translate_17 : decode cX11_translate 17 = .ok (.aload_n 0, 1) := by decide +kernel
theorem dX11_translate_18 : decode cX11_translate 18 = .ok (.getfield 17, 3) := by decide +kernel
theorem dX11_translate_21 : decode cX11_translate 21 = .ok (.iload_n 1, 1) := by decide +kernel
theorem dX11_translate_22 : decode cX11_translate 22 = .ok (.baload, 1) := by decide +kernel
theorem dX11_translate_23 : decode cX11_translate 23 = .ok (.istore_n 3, 1) := by decide +kernel
theorem dX11_translate_24 : decode cX11_translate 24 = .ok (.iload_n 3, 1) := by decide +kernel
theorem dX11_translate_25 : decode cX11_translate 25 = .ok (.bipush 92, 2) := by decide +kernel
theorem dX11_translate_27 : decode cX11_translate 27 = .ok (.if_icmp .ne 182, 3) := by decide +kernel
theorem dX11_translate_30 : decode cX11_translate 30 = .ok (.iload_n 2, 1) := by decide +kernel
theorem dX11_translate_31 : decode cX11_translate 31 = .ok (.ifCond .ne 178, 3) := by decide +kernel
theorem dX11_translate_34 : decode cX11_translate 34 = .ok (.iload_n 1, 1) := by decide +kernel
theorem dX11_translate_35 : decode cX11_translate 35 = .ok (.iconst 1, 1) := by decide +kernel
theorem dX11_translate_36 : decode cX11_translate 36 = .ok (.iadd, 1) := by decide +kernel
theorem dX11_translate_37 : decode cX11_translate 37 = .ok (.aload_n 0, 1) := by decide +kernel
theorem dX11_translate_38 : decode cX11_translate 38 = .ok (.getfield 64, 3) := by decide +kernel
theorem dX11_translate_41 : decode cX11_translate 41 = .ok (.if_icmp .ge 168, 3) := by decide +kernel
theorem dX11_translate_44 : decode cX11_translate 44 = .ok (.aload_n 0, 1) := by decide +kernel
theorem dX11_translate_45 : decode cX11_translate 45 = .ok (.getfield 17, 3) := by decide +kernel
theorem dX11_translate_48 : decode cX11_translate 48 = .ok (.iload_n 1, 1) := by decide +kernel
theorem dX11_translate_49 : decode cX11_translate 49 = .ok (.iconst 1, 1) := by decide +kernel
theorem dX11_translate_50 : decode cX11_translate 50 = .ok (.iadd, 1) := by decide +kernel
theorem dX11_translate_51 : decode cX11_translate 51 = .ok (.baload, 1) := by decide +kernel
theorem dX11_translate_52 : decode cX11_translate 52 = .ok (.bipush 117, 2) := by decide +kernel
theorem dX11_translate_54 : decode cX11_translate 54 = .ok (.if_icmp .ne 155, 3) := by decide +kernel
theorem dX11_translate_57 : decode cX11_translate 57 = .ok (.iload_n 1, 1) := by decide +kernel
theorem dX11_translate_58 : decode cX11_translate 58 = .ok (.iconst 1, 1) := by decide +kernel
theorem dX11_translate_59 : decode cX11_translate 59 = .ok (.iadd, 1) := by decide +kernel
theorem dX11_translate_60 : decode cX11_translate 60 = .ok (.istore 4, 2) := by decide +kernel
theorem dX11_translate_62 : decode cX11_translate 62 = .ok (.iconst 0, 1) := by decide +kernel
theorem dX11_translate_63 : decode cX11_translate 63 = .ok (.istore 5, 2) := by decide +kernel
theorem dX11_translate_65 : decode cX11_translate 65 = .ok (.iload 4, 2) := by decide +kernel
theorem dX11_translate_67 : decode cX11_translate 67 = .ok (.aload_n 0, 1) := by decide +kernel
theorem dX11_translate_68 : decode cX11_translate 68 = .ok (.getfield 64, 3) := by decide +kernel
theorem dX11_translate_71 : decode cX11_translate 71 = .ok (.if_icmp .ge 21, 3) := by decide +kernel
theorem dX11_translate_74 : decode cX11_translate 74 = .ok (.aload_n 0, 1) := by decide +kernel
theorem dX11_translate_75 : decode cX11_translate 75 = .ok (.getfield 17, 3) := by decide +kernel
theorem dX11_translate_78 : decode cX11_translate 78 = .ok (.iload 4, 2) := by decide +kernel
theorem dX11_translate_80 : decode cX11_translate 80 = .ok (.baload, 1) := by decide +kernel
theorem dX11_translate_81 : decode cX11_translate 81 = .ok (.bipush 117, 2) := by decide +kernel
theorem dX11_translate_83 : decode cX11_translate 83 = .ok (.if_icmp .ne 9, 3) := by decide +kernel
theorem dX11_translate_86 : decode cX11_translate 86 = .ok (.iinc 4 1, 3) := by decide +kernel
theorem dX11_translate_89 : decode cX11_translate 89 = .ok (.goto (-24), 3) := by decide +kernel
theorem dX11_translate_92 : decode cX11_translate 92 = .ok (.iconst 1, 1) := by decide +kernel
theorem dX11_translate_93 : decode cX11_translate 93 = .ok (.istore 6, 2) := by decide +kernel
theorem dX11_translate_95 : decode cX11_translate 95 = .ok (.iload 4, 2) := by decide +kernel
theorem dX11_translate_97 : decode cX11_translate 97 = .ok (.istore 7, 2) := by decide +kernel
theorem dX11_translate_99 : decode cX11_translate 99 = .ok (.iload 7, 2) := by decide +kernel
theorem dX11_translate_101 : decode cX11_translate 101 = .ok (.iload 4, 2) := by decide +kernel
theorem dX11_translate_103 : decode cX11_translate 103 = .ok (.iconst 4, 1) := by decide +kernel
theorem dX11_translate_104 : decode cX11_translate 104 = .ok (.iadd, 1) := by decide +kernel
theorem dX11_translate_105 : decode cX11_translate 105 = .ok (.if_icmp .ge 63, 3) := by decide +kernel
theorem dX11_translate_108 : decode cX11_translate 108 = .ok (.iload 7, 2) := by decide +kernel
theorem dX11_translate_110 : decode cX11_translate 110 = .ok (.aload_n 0, 1) := by decide +kernel
theorem dX11_translate_111 : decode cX11_translate 111 = .ok (.getfield 64, 3) := by decide +kernel
theorem dX11_translate_114 : decode cX11_translate 114 = .ok (.if_icmp .ge 18, 3) := by decide +kernel
theorem dX11_translate_117 : decode cX11_translate 117 = .ok (.aload_n 0, 1) := by decide +kernel
theorem dX11_translate_118 : decode cX11_translate 118 = .ok (.getfield 17, 3) := by decide +kernel
theorem dX11_translate_121 : decode cX11_translate 121 = .ok (.iload 7, 2) := by decide +kernel
theorem dX11_translate_123 : decode cX11_translate 123 = .ok (.baload, 1) := by decide +kernel
theorem dX11_translate_124 : decode cX11_translate 124 = .ok (.bipush 16, 2) := by decide +kernel
theorem dX11_translate_126 : decode cX11_translate 126 = .ok (.invokestatic 73, 3) := by decide +kernel
theorem dX11_translate_129 : decode cX11_translate 129 = .ok (.goto 4, 3) := by decide +kernel
theorem dX11_translate_132 : decode cX11_translate 132 = .ok (.iconst (-1), 1) := by decide +kernel
theorem dX11_translate_133 : decode cX11_translate 133 = .ok (.istore 8, 2) := by decide +kernel
theorem dX11_translate_135 : decode cX11_translate 135 = .ok (.iload 6, 2) := by decide +kernel
theorem dX11_translate_137 : decode cX11_translate 137 = .ok (.ifCond .eq 12, 3) := by decide +kernel
theorem dX11_translate_140 : decode cX11_translate 140 = .ok (.iload 8, 2) := by decide +kernel
theorem dX11_translate_142 : decode cX11_translate 142 = .ok (.ifCond .lt 7, 3) := by decide +kernel
theorem dX11_translate_145 : decode cX11_translate 145 = .ok (.iconst 1, 1) := by decide +kernel
theorem dX11_translate_146 : decode cX11_translate 146 = .ok (.goto 4, 3) := by decide +kernel
theorem dX11_translate_149 : decode cX11_translate 149 = .ok (.iconst 0, 1) := by decide +kernel
theorem dX11_translate_150 : decode cX11_translate 150 = .ok (.istore 6, 2) := by decide +kernel
theorem dX11_translate_152 : decode cX11_translate 152 = .ok (.bipush 16, 2) := by decide +kernel
theorem dX11_translate_154 : decode cX11_translate 154 = .ok (.iload 5, 2) := by decide +kernel
theorem dX11_translate_156 : decode cX11_translate 156 = .ok (.imul, 1) := by decide +kernel
theorem dX11_translate_157 : decode cX11_translate 157 = .ok (.iload 8, 2) := by decide +kernel
theorem dX11_translate_159 : decode cX11_translate 159 = .ok (.iadd, 1) := by decide +kernel
theorem dX11_translate_160 : decode cX11_translate 160 = .ok (.istore 5, 2) := by decide +kernel
theorem dX11_translate_162 : decode cX11_translate 162 = .ok (.iinc 7 1, 3) := by decide +kernel
theorem dX11_translate_165 : decode cX11_translate 165 = .ok (.goto (-66), 3) := by decide +kernel
theorem dX11_translate_168 : decode cX11_translate 168 = .ok (.aload_n 0, 1) := by decide +kernel
theorem dX11_translate_169 : decode cX11_translate 169 = .ok (.getfield 22, 3) := by decide +kernel
theorem dX11_translate_172 : decode cX11_translate 172 = .ok (.aload_n 0, 1) := by decide +kernel
theorem dX11_translate_173 : decode cX11_translate 173 = .ok (.getfield 70, 3) := by decide +kernel
theorem dX11_translate_176 : decode cX11_translate 176 = .ok (.iload 6, 2) := by decide +kernel
theorem dX11_translate_178 : decode cX11_translate 178 = .ok (.ifCond .eq 8, 3) := by decide +kernel
theorem dX11_translate_181 : decode cX11_translate 181 = .ok (.iload 5, 2) := by decide +kernel
theorem dX11_translate_183 : decode cX11_translate 183 = .ok (.goto 5, 3) := by decide +kernel
theorem dX11_translate_186 : decode cX11_translate 186 = .ok (.bipush (-2), 2) := by decide +kernel
theorem dX11_translate_188 : decode cX11_translate 188 = .ok (.iastore, 1) := by decide +kernel
theorem dX11_translate_189 : decode cX11_translate 189 = .ok (.iload 6, 2) := by decide +kernel
theorem dX11_translate_191 : decode cX11_translate 191 = .ok (.ifCond .eq 10, 3) := by decide +kernel
theorem dX11_translate_194 : decode cX11_translate 194 = .ok (.iload 4, 2) := by decide +kernel
theorem dX11_translate_196 : decode cX11_translate 196 = .ok (.iconst 4, 1) := by decide +kernel
theorem dX11_translate_197 : decode cX11_translate 197 = .ok (.iadd, 1) := by decide +kernel
theorem dX11_translate_198 : decode cX11_translate 198 = .ok (.goto 7, 3) := by decide +kernel
theorem dX11_translate_201 : decode cX11_translate 201 = .ok (.aload_n 0, 1) := by decide +kernel
theorem dX11_translate_202 : decode cX11_translate 202 = .ok (.getfield 64, 3) := by decide +kernel
theorem dX11_translate_205 : decode cX11_translate 205 = .ok (.istore_n 1, 1) := by decide +kernel
theorem dX11_translate_206 : decode cX11_translate 206 = .ok (.goto 32, 3) := by decide +kernel
theorem dX11_translate_209 : decode cX11_translate 209 = .ok (.iload_n 3, 1) := by decide +kernel
theorem dX11_translate_210 : decode cX11_translate 210 = .ok (.bipush 92, 2) := by decide +kernel
theorem dX11_translate_212 : decode cX11_translate 212 = .ok (.if_icmp .ne 11, 3) := by decide +kernel
theorem dX11_translate_215 : decode cX11_translate 215 = .ok (.iload_n 2, 1) := by decide +kernel
theorem dX11_translate_216 : decode cX11_translate 216 = .ok (.ifCond .ne 7, 3) := by decide +kernel
theorem dX11_translate_219 : decode cX11_translate 219 = .ok (.iconst 1, 1) := by decide +kernel
theorem dX11_translate_220 : decode cX11_translate 220 = .ok (.goto 4, 3) := by decide +kernel
theorem dX11_translate_223 : decode cX11_translate 223 = .ok (.iconst 0, 1) := by decide +kernel
theorem dX11_translate_224 : decode cX11_translate 224 = .ok (.istore_n 2, 1) := by decide +kernel
theorem dX11_translate_225 : decode cX11_translate 225 = .ok (.aload_n 0, 1) := by decide +kernel
theorem dX11_translate_226 : decode cX11_translate 226 = .ok (.getfield 22, 3) := by decide +kernel
theorem dX11_translate_229 : decode cX11_translate 229 = .ok (.aload_n 0, 1) := by decide +kernel
theorem dX11_translate_230 : decode cX11_translate 230 = .ok (.getfield 70, 3) := by decide +kernel
theorem dX11_translate_233 : decode cX11_translate 233 = .ok (.iload_n 3, 1) := by decide +kernel
theorem dX11_translate_234 : decode cX11_translate 234 = .ok (.iastore, 1) := by decide +kernel
theorem dX11_translate_235 : decode cX11_translate 235 = .ok (.iinc 1 1, 3) := by decide +kernel
theorem dX11_translate_238 : decode cX11_translate 238 = .ok (.aload_n 0, 1) := by decide +kernel
theorem dX11_translate_239 : decode cX11_translate 239 = .ok (.dup, 1) := by decide +kernel
theorem dX11_translate_240 : decode cX11_translate 240 = .ok (.getfield 70, 3) := by decide +kernel
theorem dX11_translate_243 : decode cX11_translate 243 = .ok (.iconst 1, 1) := by decide +kernel
theorem dX11_translate_244 : decode cX11_translate 244 = .ok (.iadd, 1) := by decide +kernel
theorem dX11_translate_245 : decode cX11_translate 245 = .ok (.putfield 70, 3) := by decide +kernel
theorem dX11_translate_248 : decode cX11_translate 248 = .ok (.goto (-239), 3) := by decide +kernel
theorem dX11_translate_251 : decode cX11_translate 251 = .ok (.iconst 0, 1) := by decide +kernel
theorem dX11_translate_252 : decode cX11_translate 252 = .ok (.istore_n 3, 1) := by decide +kernel
theorem dX11_translate_253 : decode cX11_translate 253 = .ok (.iload_n 3, 1) := by decide +kernel
theorem dX11_translate_254 : decode cX11_translate 254 = .ok (.iconst 3, 1) := by decide +kernel
theorem dX11_translate_255 : decode cX11_translate 255 = .ok (.if_icmp .ge 21, 3) := by decide +kernel
theorem dX11_translate_258 : decode cX11_translate 258 = .ok (.aload_n 0, 1) := by decide +kernel
theorem dX11_translate_259 : decode cX11_translate 259 = .ok (.getfield 22, 3) := by decide +kernel
theorem dX11_translate_262 : decode cX11_translate 262 = .ok (.aload_n 0, 1) := by decide +kernel
theorem dX11_translate_263 : decode cX11_translate 263 = .ok (.getfield 70, 3) := by decide +kernel
theorem dX11_translate_266 : decode cX11_translate 266 = .ok (.iload_n 3, 1) := by decide +kernel
theorem dX11_translate_267 : decode cX11_translate 267 = .ok (.iadd, 1) := by decide +kernel
theorem dX11_translate_268 : decode cX11_translate 268 = .ok (.iconst (-1), 1) := by decide +kernel
theorem dX11_translate_269 : decode cX11_translate 269 = .ok (.iastore, 1) := by decide +kernel
theorem dX11_translate_270 : decode cX11_translate 270 = .ok (.iinc 3 1, 3) := by decide +kernel
theorem dX11_translate_273 : decode cX11_translate 273 = .ok (.goto (-20), 3) := by decide +kernel
theorem dX11_translate_276 : decode cX11_translate 276 = .ok (.return_, 1) := by decide +kernel
theorem dX11_see_0 : decode cX11_see 0 = .ok (.iload_n 1, 1) := by decide +kernel
theorem dX11_see_1 : decode cX11_see 1 = .ok (.aload_n 0, 1) := by decide +kernel
theorem dX11_see_2 : decode cX11_see 2 = .ok (.getfield 70, 3) := by decide +kernel
theorem dX11_see_5 : decode cX11_see 5 = .ok (.if_icmp .ge 12, 3) := by decide +kernel
theorem dX11_see_8 : decode cX11_see 8 = .ok (.aload_n 0, 1) := by decide +kernel
theorem dX11_see_9 : decode cX11_see 9 = .ok (.getfield 22, 3) := by decide +kernel
theorem dX11_see_12 : decode cX11_see 12 = .ok (.iload_n 1, 1) := by decide +kernel
theorem dX11_see_13 : decode cX11_see 13 = .ok (.iaload, 1) := by decide +kernel
theorem dX11_see_14 : decode cX11_see 14 = .ok (.goto 4, 3) := by decide +kernel
theorem dX11_see_17 : decode cX11_see 17 = .ok (.iconst (-1), 1) := by decide +kernel
theorem dX11_see_18 : decode cX11_see 18 = .ok (.ireturn, 1) := by decide +kernel
theorem dX11_isLetter_0 : decode cX11_isLetter 0 = .ok (.iload_n 0, 1) := by decide +kernel
theorem dX11_isLetter_1 : decode cX11_isLetter 1 = .ok (.bipush 97, 2) := by decide +kernel
theorem dX11_isLetter_3 : decode cX11_isLetter 3 = .ok (.if_icmp .lt 9, 3) := by decide +kernel
theorem dX11_isLetter_6 : decode cX11_isLetter 6 = .ok (.iload_n 0, 1) := by decide +kernel
theorem dX11_isLetter_7 : decode cX11_isLetter 7 = .ok (.bipush 122, 2) := by decide +kernel
theorem dX11_isLetter_9 : decode cX11_isLetter 9 = .ok (.if_icmp .le 27, 3) := by decide +kernel
theorem dX11_isLetter_12 : decode cX11_isLetter 12 = .ok (.iload_n 0, 1) := by decide +kernel
theorem dX11_isLetter_13 : decode cX11_isLetter 13 = .ok (.bipush 65, 2) := by decide +kernel
theorem dX11_isLetter_15 : decode cX11_isLetter 15 = .ok (.if_icmp .lt 9, 3) := by decide +kernel
theorem dX11_isLetter_18 : decode cX11_isLetter 18 = .ok (.iload_n 0, 1) := by decide +kernel
theorem dX11_isLetter_19 : decode cX11_isLetter 19 = .ok (.bipush 90, 2) := by decide +kernel
theorem dX11_isLetter_21 : decode cX11_isLetter 21 = .ok (.if_icmp .le 15, 3) := by decide +kernel
theorem dX11_isLetter_24 : decode cX11_isLetter 24 = .ok (.iload_n 0, 1) := by decide +kernel
theorem dX11_isLetter_25 : decode cX11_isLetter 25 = .ok (.bipush 95, 2) := by decide +kernel
theorem dX11_isLetter_27 : decode cX11_isLetter 27 = .ok (.if_icmp .eq 9, 3) := by decide +kernel
theorem dX11_isLetter_30 : decode cX11_isLetter 30 = .ok (.iload_n 0, 1) := by decide +kernel
theorem dX11_isLetter_31 : decode cX11_isLetter 31 = .ok (.bipush 36, 2) := by decide +kernel
theorem dX11_isLetter_33 : decode cX11_isLetter 33 = .ok (.if_icmp .ne 7, 3) := by decide +kernel
theorem dX11_isLetter_36 : decode cX11_isLetter 36 = .ok (.iconst 1, 1) := by decide +kernel
theorem dX11_isLetter_37 : decode cX11_isLetter 37 = .ok (.goto 4, 3) := by decide +kernel
theorem dX11_isLetter_40 : decode cX11_isLetter 40 = .ok (.iconst 0, 1) := by decide +kernel
theorem dX11_isLetter_41 : decode cX11_isLetter 41 = .ok (.ireturn, 1) := by decide +kernel
set_option maxRecDepth 20000 in
theorem ggX11_more_X11_see : GoodIn wsX11_more wsX11_see := goodIn_r _ [8, 2, 3, 9, 10, 11, 12, 13, 14, 15, 16, 17, 18, 19, 20, 21, 22, 23, 24, 25, 26, 27, 28, 29] rfl (by decide +kernel)
set_option maxRecDepth 20000 in
theorem gX11_more_X11_see : GoodIn wsX11_more (wsV RX11 80 RX11 yX11_see wsX11_see) := goodIn_app (goodIn_of _ (by decide +kernel)) ggX11_more_X11_see
theorem dX11_more_0 : decode cX11_more 0 = .ok (.aload_n 0, 1) := by decide +kernel
theorem dX11_more_1 : decode cX11_more 1 = .ok (.getfield 77, 3) := by decide +kernel
theorem dX11_more_4 : decode cX11_more 4 = .ok (.aload_n 0, 1) := by decide +kernel
theorem dX11_more_5 : decode cX11_more 5 = .ok (.getfield 70, 3) := by decide +kernel
theorem dX11_more_8 : decode cX11_more 8 = .ok (.if_icmp .ge 255, 3) := by decide +kernel
theorem dX11_more_11 : decode cX11_more 11 = .ok (.aload_n 0, 1) := by decide +kernel
theorem dX11_more_12 : decode cX11_more 12 = .ok (.getfield 22, 3) := by decide +kernel
theorem dX11_more_15 : decode cX11_more 15 = .ok (.aload_n 0, 1) := by decide +kernel
theorem dX11_more_16 : decode cX11_more 16 = .ok (.getfield 77, 3) := by decide +kernel
theorem dX11_more_19 : decode cX11_more 19 = .ok (.iaload, 1) := by decide +kernel
theorem dX11_more_20 : decode cX11_more 20 = .ok (.istore_n 1, 1) := by decide +kernel
theorem dX11_more_21 : decode cX11_more 21 = .ok (.iload_n 1, 1) := by decide +kernel
theorem dX11_more_22 : decode cX11_more 22 = .ok (.bipush 32, 2) := by decide +kernel
theorem dX11_more_24 : decode cX11_more 24 = .ok (.if_icmp .eq 27, 3) := by decide +kernel
theorem dX11_more_27 : decode cX11_more 27 = .ok (.iload_n 1, 1) := by decide +kernel
theorem dX11_more_28 : decode cX11_more 28 = .ok (.bipush 9, 2) := by decide +kernel
theorem dX11_more_30 : decode cX11_more 30 = .ok (.if_icmp .eq 21, 3) := by decide +kernel
theorem dX11_more_33 : decode cX11_more 33 = .ok (.iload_n 1, 1) := by decide +kernel
theorem dX11_more_34 : decode cX11_more 34 = .ok (.bipush 10, 2) := by decide +kernel
theorem dX11_more_36 : decode cX11_more 36 = .ok (.if_icmp .eq 15, 3) := by decide +kernel
theorem dX11_more_39 : decode cX11_more 39 = .ok (.iload_n 1, 1) := by decide +kernel
theorem dX11_more_40 : decode cX11_more 40 = .ok (.bipush 12, 2) := by decide +kernel
theorem dX11_more_42 : decode cX11_more 42 = .ok (.if_icmp .eq 9, 3) := by decide +kernel
theorem dX11_more_45 : decode cX11_more 45 = .ok (.iload_n 1, 1) := by decide +kernel
theorem dX11_more_46 : decode cX11_more 46 = .ok (.bipush 13, 2) := by decide +kernel
theorem dX11_more_48 : decode cX11_more 48 = .ok (.if_icmp .ne 16, 3) := by decide +kernel
theorem dX11_more_51 : decode cX11_more 51 = .ok (.aload_n 0, 1) := by decide +kernel
theorem dX11_more_52 : decode cX11_more 52 = .ok (.dup, 1) := by decide +kernel
theorem dX11_more_53 : decode cX11_more 53 = .ok (.getfield 77, 3) := by decide +kernel
theorem dX11_more_56 : decode cX11_more 56 = .ok (.iconst 1, 1) := by decide +kernel
theorem dX11_more_57 : decode cX11_more 57 = .ok (.iadd, 1) := by decide +kernel
theorem dX11_more_58 : decode cX11_more 58 = .ok (.putfield 77, 3) := by decide +kernel
theorem dX11_more_61 : decode cX11_more 61 = .ok (.goto 199, 3) := by decide +kernel
theorem dX11_more_64 : decode cX11_more 64 = .ok (.iload_n 1, 1) := by decide +kernel
theorem dX11_more_65 : decode cX11_more 65 = .ok (.bipush 47, 2) := by decide +kernel
theorem dX11_more_67 : decode cX11_more 67 = .ok (.if_icmp .ne 84, 3) := by decide +kernel
theorem dX11_more_70 : decode cX11_more 70 = .ok (.aload_n 0, 1) := by decide +kernel
theorem dX11_more_71 : decode cX11_more 71 = .ok (.aload_n 0, 1) := by decide +kernel
theorem dX11_more_72 : decode cX11_more 72 = .ok (.getfield 77, 3) := by decide +kernel
theorem dX11_more_75 : decode cX11_more 75 = .ok (.iconst 1, 1) := by decide +kernel
theorem dX11_more_76 : decode cX11_more 76 = .ok (.iadd, 1) := by decide +kernel
theorem dX11_more_77 : decode cX11_more 77 = .ok (.invokevirtual 80, 3) := by decide +kernel
theorem dX11_more_80 : decode cX11_more 80 = .ok (.bipush 47, 2) := by decide +kernel
theorem dX11_more_82 : decode cX11_more 82 = .ok (.if_icmp .ne 69, 3) := by decide +kernel
theorem dX11_more_85 : decode cX11_more 85 = .ok (.aload_n 0, 1) := by decide +kernel
theorem dX11_more_86 : decode cX11_more 86 = .ok (.getfield 77, 3) := by decide +kernel
theorem dX11_more_89 : decode cX11_more 89 = .ok (.aload_n 0, 1) := by decide +kernel
theorem dX11_more_90 : decode cX11_more 90 = .ok (.getfield 70, 3) := by decide +kernel
theorem dX11_more_93 : decode cX11_more 93 = .ok (.if_icmp .ge 167, 3) := by decide +kernel
theorem dX11_more_96 : decode cX11_more 96 = .ok (.aload_n 0, 1) := by decide +kernel
theorem dX11_more_97 : decode cX11_more 97 = .ok (.getfield 22, 3) := by decide +kernel
theorem dX11_more_100 : decode cX11_more 100 = .ok (.aload_n 0, 1) := by decide +kernel
theorem dX11_more_101 : decode cX11_more 101 = .ok (.getfield 77, 3) := by decide +kernel
theorem dX11_more_104 : decode cX11_more 104 = .ok (.iaload, 1) := by decide +kernel
theorem dX11_more_105 : decode cX11_more 105 = .ok (.bipush 10, 2) := by decide +kernel
theorem dX11_more_107 : decode cX11_more 107 = .ok (.if_icmp .eq 153, 3) := by decide +kernel
theorem dX11_more_110 : decode cX11_more 110 = .ok (.aload_n 0, 1) := by decide +kernel
theorem dX11_more_111 : decode cX11_more 111 = .ok (.getfield 22, 3) := by decide +kernel
theorem dX11_more_114 : decode cX11_more 114 = .ok (.aload_n 0, 1) := by decide +kernel
theorem dX11_more_115 : decode cX11_more 115 = .ok (.getfield 77, 3) := by decide +kernel
theorem dX11_more_118 : decode cX11_more 118 = .ok (.iaload, 1) := by decide +kernel
theorem dX11_more_119 : decode cX11_more 119 = .ok (.bipush 13, 2) := by decide +kernel
theorem dX11_more_121 : decode cX11_more 121 = .ok (.if_icmp .eq 139, 3) := by decide +kernel
theorem dX11_more_124 : decode cX11_more 124 = .ok (.aload_n 0, 1) := by decide +kernel
theorem dX11_more_125 : decode cX11_more 125 = .ok (.getfield 22, 3) := by decide +kernel
theorem dX11_more_128 : decode cX11_more 128 = .ok (.aload_n 0, 1) := by decide +kernel
theorem dX11_more_129 : decode cX11_more 129 = .ok (.getfield 77, 3) := by decide +kernel
theorem dX11_more_132 : decode cX11_more 132 = .ok (.iaload, 1) := by decide +kernel
theorem dX11_more_133 : decode cX11_more 133 = .ok (.bipush (-2), 2) := by decide +kernel
theorem dX11_more_135 : decode cX11_more 135 = .ok (.if_icmp .eq 125, 3) := by decide +kernel
theorem dX11_more_138 : decode cX11_more 138 = .ok (.aload_n 0, 1) := by decide +kernel
theorem dX11_more_139 : decode cX11_more 139 = .ok (.dup, 1) := by decide +kernel
theorem dX11_more_140 : decode cX11_more 140 = .ok (.getfield 77, 3) := by decide +kernel
theorem dX11_more_143 : decode cX11_more 143 = .ok (.iconst 1, 1) := by decide +kernel
theorem dX11_more_144 : decode cX11_more 144 = .ok (.iadd, 1) := by decide +kernel
theorem dX11_more_145 : decode cX11_more 145 = .ok (.putfield 77, 3) := by decide +kernel
theorem dX11_more_148 : decode cX11_more 148 = .ok (.goto (-63), 3) := by decide +kernel
theorem dX11_more_151 : decode cX11_more 151 = .ok (.iload_n 1, 1) := by decide +kernel
theorem dX11_more_152 : decode cX11_more 152 = .ok (.bipush 47, 2) := by decide +kernel
theorem dX11_more_154 : decode cX11_more 154 = .ok (.if_icmp .ne 104, 3) := by decide +kernel
theorem dX11_more_157 : decode cX11_more 157 = .ok (.aload_n 0, 1) := by decide +kernel
theorem dX11_more_158 : decode cX11_more 158 = .ok (.aload_n 0, 1) := by decide +kernel
theorem dX11_more_159 : decode cX11_more 159 = .ok (.getfield 77, 3) := by decide +kernel
theorem dX11_more_162 : decode cX11_more 162 = .ok (.iconst 1, 1) := by decide +kernel
theorem dX11_more_163 : decode cX11_more 163 = .ok (.iadd, 1) := by decide +kernel
theorem dX11_more_164 : decode cX11_more 164 = .ok (.invokevirtual 80, 3) := by decide +kernel
theorem dX11_more_167 : decode cX11_more 167 = .ok (.bipush 42, 2) := by decide +kernel
theorem dX11_more_169 : decode cX11_more 169 = .ok (.if_icmp .ne 89, 3) := by decide +kernel
theorem dX11_more_172 : decode cX11_more 172 = .ok (.aload_n 0, 1) := by decide +kernel
theorem dX11_more_173 : decode cX11_more 173 = .ok (.getfield 77, 3) := by decide +kernel
theorem dX11_more_176 : decode cX11_more 176 = .ok (.iconst 2, 1) := by decide +kernel
theorem dX11_more_177 : decode cX11_more 177 = .ok (.iadd, 1) := by decide +kernel
theorem dX11_more_178 : decode cX11_more 178 = .ok (.istore_n 2, 1) := by decide +kernel
theorem dX11_more_179 : decode cX11_more 179 = .ok (.iload_n 2, 1) := by decide +kernel
theorem dX11_more_180 : decode cX11_more 180 = .ok (.aload_n 0, 1) := by decide +kernel
theorem dX11_more_181 : decode cX11_more 181 = .ok (.getfield 70, 3) := by decide +kernel
theorem dX11_more_184 : decode cX11_more 184 = .ok (.if_icmp .ge 43, 3) := by decide +kernel
theorem dX11_more_187 : decode cX11_more 187 = .ok (.aload_n 0, 1) := by decide +kernel
theorem dX11_more_188 : decode cX11_more 188 = .ok (.getfield 22, 3) := by decide +kernel
theorem dX11_more_191 : decode cX11_more 191 = .ok (.iload_n 2, 1) := by decide +kernel
theorem dX11_more_192 : decode cX11_more 192 = .ok (.iaload, 1) := by decide +kernel
theorem dX11_more_193 : decode cX11_more 193 = .ok (.bipush (-2), 2) := by decide +kernel
theorem dX11_more_195 : decode cX11_more 195 = .ok (.if_icmp .eq 32, 3) := by decide +kernel
theorem dX11_more_198 : decode cX11_more 198 = .ok (.aload_n 0, 1) := by decide +kernel
theorem dX11_more_199 : decode cX11_more 199 = .ok (.getfield 22, 3) := by decide +kernel
theorem dX11_more_202 : decode cX11_more 202 = .ok (.iload_n 2, 1) := by decide +kernel
theorem dX11_more_203 : decode cX11_more 203 = .ok (.iaload, 1) := by decide +kernel
theorem dX11_more_204 : decode cX11_more 204 = .ok (.bipush 42, 2) := by decide +kernel
theorem dX11_more_206 : decode cX11_more 206 = .ok (.if_icmp .ne 15, 3) := by decide +kernel
theorem dX11_more_209 : decode cX11_more 209 = .ok (.aload_n 0, 1) := by decide +kernel
theorem dX11_more_210 : decode cX11_more 210 = .ok (.iload_n 2, 1) := by decide +kernel
theorem dX11_more_211 : decode cX11_more 211 = .ok (.iconst 1, 1) := by decide +kernel
theorem dX11_more_212 : decode cX11_more 212 = .ok (.iadd, 1) := by decide +kernel
theorem dX11_more_213 : decode cX11_more 213 = .ok (.invokevirtual 80, 3) := by decide +kernel
theorem dX11_more_216 : decode cX11_more 216 = .ok (.bipush 47, 2) := by decide +kernel
theorem dX11_more_218 : decode cX11_more 218 = .ok (.if_icmp .eq 9, 3) := by decide +kernel
theorem dX11_more_221 : decode cX11_more 221 = .ok (.iinc 2 1, 3) := by decide +kernel
theorem dX11_more_224 : decode cX11_more 224 = .ok (.goto (-45), 3) := by decide +kernel
theorem dX11_more_227 : decode cX11_more 227 = .ok (.iload_n 2, 1) := by decide +kernel
theorem dX11_more_228 : decode cX11_more 228 = .ok (.aload_n 0, 1) := by decide +kernel
theorem dX11_more_229 : decode cX11_more 229 = .ok (.getfield 70, 3) := by decide +kernel
theorem dX11_more_232 : decode cX11_more 232 = .ok (.if_icmp .ge 14, 3) := by decide +kernel
theorem dX11_more_235 : decode cX11_more 235 = .ok (.aload_n 0, 1) := by decide +kernel
theorem dX11_more_236 : decode cX11_more 236 = .ok (.getfield 22, 3) := by decide +kernel
theorem dX11_more_239 : decode cX11_more 239 = .ok (.iload_n 2, 1) := by decide +kernel
theorem dX11_more_240 : decode cX11_more 240 = .ok (.iaload, 1) := by decide +kernel
theorem dX11_more_241 : decode cX11_more 241 = .ok (.bipush (-2), 2) := by decide +kernel
theorem dX11_more_243 : decode cX11_more 243 = .ok (.if_icmp .ne 5, 3) := by decide +kernel
theorem dX11_more_246 : decode cX11_more 246 = .ok (.iconst 1, 1) := by decide +kernel
theorem dX11_more_247 : decode cX11_more 247 = .ok (.ireturn, 1) := by decide +kernel
theorem dX11_more_248 : decode cX11_more 248 = .ok (.aload_n 0, 1) := by decide +kernel
theorem dX11_more_249 : decode cX11_more 249 = .ok (.iload_n 2, 1) := by decide +kernel
theorem dX11_more_250 : decode cX11_more 250 = .ok (.iconst 2, 1) := by decide +kernel
theorem dX11_more_251 : decode cX11_more 251 = .ok (.iadd, 1) := by decide +kernel
theorem dX11_more_252 : decode cX11_more 252 = .ok (.putfield 77, 3) := by decide +kernel
theorem dX11_more_255 : decode cX11_more 255 = .ok (.goto 5, 3) := by decide +kernel
theorem dX11_more_258 : decode cX11_more 258 = .ok (.iconst 1, 1) := by decide +kernel
theorem dX11_more_259 : decode cX11_more 259 = .ok (.ireturn, 1) := by decide +kernel
theorem dX11_more_260 : decode cX11_more 260 = .ok (.goto (-260), 3) := by decide +kernel
theorem dX11_more_263 : decode cX11_more 263 = .ok (.iconst 0, 1) := by decide +kernel
theorem dX11_more_264 : decode cX11_more 264 = .ok (.ireturn, 1) := by decide +kernel
set_option maxRecDepth 20000 in
theorem ggX11_isAt_J0_charAt_5068e : GoodIn wsX11_isAt wsJ0_charAt_5068e := goodIn_r _ [5, 6, 7, 8, 9, 4, 10, 11, 12, 13, 14, 15, 16, 17, 18, 19, 20, 21, 22, 23, 24, 25, 26, 27, 28, 29, 30, 31, 32, 33, 34, 35, 36, 37, 38, 39, 40, 41] rfl (by decide +kernel)
set_option maxRecDepth 20000 in
theorem gX11_isAt_J0_charAt_5068e : GoodIn wsX11_isAt (wsV RX11 83 RJ0 yJ0_charAt_5068e wsJ0_charAt_5068e) := goodIn_app (goodIn_of _ (by decide +kernel)) ggX11_isAt_J0_charAt_5068e
theorem dX11_isAt_0 : decode cX11_isAt 0 = .ok (.iload_n 2, 1) := by decide +kernel
theorem dX11_isAt_1 : decode cX11_isAt 1 = .ok (.iload_n 1, 1) := by decide +kernel
theorem dX11_isAt_2 : decode cX11_isAt 2 = .ok (.isub, 1) := by decide +kernel
theorem dX11_isAt_3 : decode cX11_isAt 3 = .ok (.iload 5, 2) := by decide +kernel
theorem dX11_isAt_5 : decode cX11_isAt 5 = .ok (.if_icmp .eq 5, 3) := by decide +kernel
theorem dX11_isAt_8 : decode cX11_isAt 8 = .ok (.iconst 0, 1) := by decide +kernel
theorem dX11_isAt_9 : decode cX11_isAt 9 = .ok (.ireturn, 1) := by decide +kernel
theorem dX11_isAt_10 : decode cX11_isAt 10 = .ok (.iconst 0, 1) := by decide +kernel
theorem dX11_isAt_11 : decode cX11_isAt 11 = .ok (.istore 6, 2) := by decide +kernel
theorem dX11_isAt_13 : decode cX11_isAt 13 = .ok (.iload 6, 2) := by decide +kernel
theorem dX11_isAt_15 : decode cX11_isAt 15 = .ok (.iload 5, 2) := by decide +kernel
theorem dX11_isAt_17 : decode cX11_isAt 17 = .ok (.if_icmp .ge 29, 3) := by decide +kernel
theorem dX11_isAt_20 : decode cX11_isAt 20 = .ok (.aload_n 0, 1) := by decide +kernel
theorem dX11_isAt_21 : decode cX11_isAt 21 = .ok (.iload_n 1, 1) := by decide +kernel
theorem dX11_isAt_22 : decode cX11_isAt 22 = .ok (.iload 6, 2) := by decide +kernel
theorem dX11_isAt_24 : decode cX11_isAt 24 = .ok (.iadd, 1) := by decide +kernel
theorem dX11_isAt_25 : decode cX11_isAt 25 = .ok (.invokevirtual 83, 3) := by decide +kernel
theorem dX11_isAt_28 : decode cX11_isAt 28 = .ok (.aload_n 3, 1) := by decide +kernel
theorem dX11_isAt_29 : decode cX11_isAt 29 = .ok (.iload 4, 2) := by decide +kernel
theorem dX11_isAt_31 : decode cX11_isAt 31 = .ok (.iload 6, 2) := by decide +kernel
theorem dX11_isAt_33 : decode cX11_isAt 33 = .ok (.iadd, 1) := by decide +kernel
theorem dX11_isAt_34 : decode cX11_isAt 34 = .ok (.iaload, 1) := by decide +kernel
theorem dX11_isAt_35 : decode cX11_isAt 35 = .ok (.if_icmp .eq 5, 3) := by decide +kernel
theorem dX11_isAt_38 : decode cX11_isAt 38 = .ok (.iconst 0, 1) := by decide +kernel
theorem dX11_isAt_39 : decode cX11_isAt 39 = .ok (.ireturn, 1) := by decide +kernel
theorem dX11_isAt_40 : decode cX11_isAt 40 = .ok (.iinc 6 1, 3) := by decide +kernel
theorem dX11_isAt_43 : decode cX11_isAt 43 = .ok (.goto (-30), 3) := by decide +kernel
theorem dX11_isAt_46 : decode cX11_isAt 46 = .ok (.iconst 1, 1) := by decide +kernel
theorem dX11_isAt_47 : decode cX11_isAt 47 = .ok (.ireturn, 1) := by decide +kernel
set_option maxRecDepth 20000 in
theorem ggX11_among_J0_length_8abf5 : GoodIn wsX11_among wsJ0_length_8abf5 := goodIn_r _ [7, 8, 9, 10, 11, 6, 12, 13, 14] rfl (by decide +kernel)
set_option maxRecDepth 20000 in
theorem gX11_among_J0_length_8abf5 : GoodIn wsX11_among (wsV RX11 89 RJ0 yJ0_length_8abf5 wsJ0_length_8abf5) := goodIn_app (goodIn_of _ (by decide +kernel)) ggX11_among_J0_length_8abf5
set_option maxRecDepth 20000 in
theorem ggX11_among_J0_indexOf_7cf53 : GoodIn wsX11_among wsJ0_indexOf_7cf53 := goodIn_r _ [18, 8, 19, 20, 21, 6, 22, 13, 14, 23, 4, 5, 7, 9, 10, 11, 12, 24, 25, 26, 27, 28, 29, 30, 31, 32, 33, 34, 35, 36, 37, 38, 39, 40, 41, 42, 43, 44, 45, 46, 47, 48, 49, 50, 51, 52, 53, 54, 55, 56, 57, 58, 59, 60, 61, 62, 63, 64, 65, 66, 67, 68, 69, 70, 71, 72, 73, 74, 75, 76, 77, 78, 79, 80, 81, 82, 83, 84, 85, 86, 87, 88] rfl (by decide +kernel)
set_option maxRecDepth 20000 in
theorem gX11_among_J0_indexOf_7cf53 : GoodIn wsX11_among (wsV RX11 92 RJ0 yJ0_indexOf_7cf53 wsJ0_indexOf_7cf53) := goodIn_app (goodIn_of _ (by decide +kernel)) ggX11_among_J0_indexOf_7cf53
set_option maxRecDepth 20000 in
theorem ggX11_among_X11_isAt : GoodIn wsX11_among wsX11_isAt := goodIn_r _ [92, 93, 94, 95, 6, 96, 8, 19, 20, 21, 22, 13, 14, 97, 98, 26, 99, 100, 101, 102, 60, 103, 104, 63, 105, 106, 107, 43, 108, 109, 110, 111, 54, 55, 56, 112, 68, 69, 70, 71, 72, 73] rfl (by decide +kernel)
set_option maxRecDepth 20000 in
theorem gX11_among_X11_isAt : GoodIn wsX11_among (va_wsS RX11 95 yX11_isAt wsX11_isAt) := goodIn_app (goodIn_of _ (by decide +kernel)) ggX11_among_X11_isAt
theorem dX11_among_0 : decode cX11_among 0 = .ok (.iconst 0, 1) := by decide +kernel
theorem dX11_among_1 : decode cX11_among 1 = .ok (.istore_n 3, 1) := by decide +kernel
theorem dX11_among_2 : decode cX11_among 2 = .ok (.iconst 1, 1) := by decide +kernel
theorem dX11_among_3 : decode cX11_among 3 = .ok (.istore 4, 2) := by decide +kernel
theorem dX11_among_5 : decode cX11_among 5 = .ok (.iload 4, 2) := by decide +kernel
theorem dX11_among_7 : decode cX11_among 7 = .ok (.aload_n 1, 1) := by decide +kernel
theorem dX11_among_8 : decode cX11_among 8 = .ok (.invokevirtual 89, 3) := by decide +kernel
theorem dX11_among_11 : decode cX11_among 11 = .ok (.if_icmp .ge 47, 3) := by decide +kernel
theorem dX11_among_14 : decode cX11_among 14 = .ok (.aload_n 1, 1) := by decide +kernel
theorem dX11_among_15 : decode cX11_among 15 = .ok (.bipush 32, 2) := by decide +kernel
theorem dX11_among_17 : decode cX11_among 17 = .ok (.iload 4, 2) := by decide +kernel
theorem dX11_among_19 : decode cX11_among 19 = .ok (.invokevirtual 92, 3) := by decide +kernel
theorem dX11_among_22 : decode cX11_among 22 = .ok (.istore 5, 2) := by decide +kernel
theorem dX11_among_24 : decode cX11_among 24 = .ok (.iinc 3 1, 3) := by decide +kernel
theorem dX11_among_27 : decode cX11_among 27 = .ok (.aload_n 1, 1) := by decide +kernel
theorem dX11_among_28 : decode cX11_among 28 = .ok (.iload 4, 2) := by decide +kernel
theorem dX11_among_30 : decode cX11_among 30 = .ok (.iload 5, 2) := by decide +kernel
theorem dX11_among_32 : decode cX11_among 32 = .ok (.aload_n 0, 1) := by decide +kernel
theorem dX11_among_33 : decode cX11_among 33 = .ok (.getfield 22, 3) := by decide +kernel
theorem dX11_among_36 : decode cX11_among 36 = .ok (.aload_n 0, 1) := by decide +kernel
theorem dX11_among_37 : decode cX11_among 37 = .ok (.getfield 77, 3) := by decide +kernel
theorem dX11_among_40 : decode cX11_among 40 = .ok (.iload_n 2, 1) := by decide +kernel
theorem dX11_among_41 : decode cX11_among 41 = .ok (.invokestatic 95, 3) := by decide +kernel
theorem dX11_among_44 : decode cX11_among 44 = .ok (.ifCond .eq 5, 3) := by decide +kernel
theorem dX11_among_47 : decode cX11_among 47 = .ok (.iload_n 3, 1) := by decide +kernel
theorem dX11_among_48 : decode cX11_among 48 = .ok (.ireturn, 1) := by decide +kernel
theorem dX11_among_49 : decode cX11_among 49 = .ok (.iload 5, 2) := by decide +kernel
theorem dX11_among_51 : decode cX11_among 51 = .ok (.iconst 1, 1) := by decide +kernel
theorem dX11_among_52 : decode cX11_among 52 = .ok (.iadd, 1) := by decide +kernel
theorem dX11_among_53 : decode cX11_among 53 = .ok (.istore 4, 2) := by decide +kernel
theorem dX11_among_55 : decode cX11_among 55 = .ok (.goto (-50), 3) := by decide +kernel
theorem dX11_among_58 : decode cX11_among 58 = .ok (.iconst 0, 1) := by decide +kernel
theorem dX11_among_59 : decode cX11_among 59 = .ok (.ireturn, 1) := by decide +kernel
set_option maxRecDepth 20000 in
theorem ggX11_name_X11_see : GoodIn wsX11_name wsX11_see := goodIn_r _ [10, 11, 4, 138, 139, 140, 141, 142, 143, 144, 145, 146, 147, 148, 149, 150, 151, 152, 153, 154, 155, 156, 157, 158] rfl (by decide +kernel)
set_option maxRecDepth 20000 in
theorem gX11_name_X11_see : GoodIn wsX11_name (wsV RX11 80 RX11 yX11_see wsX11_see) := goodIn_app (goodIn_of _ (by decide +kernel)) ggX11_name_X11_see
set_option maxRecDepth 20000 in
theorem ggX11_name_X11_isLetter : GoodIn wsX11_name wsX11_isLetter := goodIn_r _ [14] rfl (by decide +kernel)
set_option maxRecDepth 20000 in
theorem gX11_name_X11_isLetter : GoodIn wsX11_name (va_wsS RX11 99 yX11_isLetter wsX11_isLetter) := goodIn_app (goodIn_of _ (by decide +kernel)) ggX11_name_X11_isLetter
set_option maxRecDepth 20000 in
theorem ggX11_name_X11_digit : GoodIn wsX11_name wsX11_digit := goodIn_r _ [17] rfl (by decide +kernel)
set_option maxRecDepth 20000 in
theorem gX11_name_X11_digit : GoodIn wsX11_name (va_wsS RX11 73 yX11_digit wsX11_digit) := goodIn_app (goodIn_of _ (by decide +kernel)) ggX11_name_X11_digit
set_option maxRecDepth 20000 in
theorem ggX11_name_X11_among : GoodIn wsX11_name wsX11_among := goodIn_r _ [21, 4, 1, 22, 23, 24, 25, 26, 27, 28, 29, 30, 31, 32, 33, 34, 35, 36, 37, 38, 39, 40, 41, 42, 43, 44, 45, 46, 47, 48, 49, 50, 51, 52, 53, 54, 55, 56, 57, 58, 59, 60, 61, 62, 63, 64, 65, 66, 67, 68, 69, 70, 71, 72, 73, 74, 75, 76, 77, 78, 79, 80, 81, 82, 83, 84, 85, 86, 87, 88, 89, 90, 91, 92, 93, 94, 95, 96, 97, 98, 99, 100, 101, 102, 103, 104, 105, 106, 107, 108, 109, 9, 110, 111, 112, 113, 114, 115, 116, 117, 118, 119, 120, 121, 122, 123, 124, 125, 126, 127, 128, 129, 130, 138, 139, 140, 141, 142, 143, 144, 145, 146, 147, 148, 149, 150, 151, 152, 153, 154, 155, 156, 157, 158] rfl (by decide +kernel)
set_option maxRecDepth 20000 in
theorem gX11_name_X11_among : GoodIn wsX11_name (wsV RX11 105 RX11 yX11_among wsX11_among) := goodIn_app (goodIn_of _ (by decide +kernel)) ggX11_name_X11_among
set_option maxRecDepth 20000 in
theorem ggX11_name_X11_letter : GoodIn wsX11_name wsX11_letter := goodIn_r _ [134, 135, 136, 137, 138, 139, 140, 141, 142, 143, 144, 145, 146, 147, 148, 149, 150, 151, 152, 153, 154, 155, 156, 157, 158] rfl (by decide +kernel)
set_option maxRecDepth 20000 in
theorem gX11_name_X11_letter : GoodIn wsX11_name (wsV RX11 116 RX11 yX11_letter wsX11_letter) := goodIn_app (goodIn_of _ (by decide +kernel)) ggX11_name_X11_letter
theorem dX11_name_0 : decode cX11_name 0 = .ok (.aload_n 0, 1) := by decide +kernel
theorem dX11_name_1 : decode cX11_name 1 = .ok (.getfield 77, 3) := by decide +kernel
theorem dX11_name_4 : decode cX11_name 4 = .ok (.istore_n 1, 1) := by decide +kernel
theorem dX11_name_5 : decode cX11_name 5 = .ok (.aload_n 0, 1) := by decide +kernel
theorem dX11_name_6 : decode cX11_name 6 = .ok (.iload_n 1, 1) := by decide +kernel
theorem dX11_name_7 : decode cX11_name 7 = .ok (.invokevirtual 80, 3) := by decide +kernel
theorem dX11_name_10 : decode cX11_name 10 = .ok (.invokestatic 99, 3) := by decide +kernel
theorem dX11_name_13 : decode cX11_name 13 = .ok (.ifCond .ne 16, 3) := by decide +kernel
theorem dX11_name_16 : decode cX11_name 16 = .ok (.aload_n 0, 1) := by decide +kernel
theorem dX11_name_17 : decode cX11_name 17 = .ok (.iload_n 1, 1) := by decide +kernel
theorem dX11_name_18 : decode cX11_name 18 = .ok (.invokevirtual 80, 3) := by decide +kernel
theorem dX11_name_21 : decode cX11_name 21 = .ok (.bipush 10, 2) := by decide +kernel
theorem dX11_name_23 : decode cX11_name 23 = .ok (.invokestatic 73, 3) := by decide +kernel
theorem dX11_name_26 : decode cX11_name 26 = .ok (.ifCond .lt 9, 3) := by decide +kernel
theorem dX11_name_29 : decode cX11_name 29 = .ok (.iinc 1 1, 3) := by decide +kernel
theorem dX11_name_32 : decode cX11_name 32 = .ok (.goto (-27), 3) := by decide +kernel
theorem dX11_name_35 : decode cX11_name 35 = .ok (.iload_n 1, 1) := by decide +kernel
theorem dX11_name_36 : decode cX11_name 36 = .ok (.aload_n 0, 1) := by decide +kernel
theorem dX11_name_37 : decode cX11_name 37 = .ok (.getfield 77, 3) := by decide +kernel
theorem dX11_name_40 : decode cX11_name 40 = .ok (.isub, 1) := by decide +kernel
theorem dX11_name_41 : decode cX11_name 41 = .ok (.istore_n 2, 1) := by decide +kernel
theorem dX11_name_42 : decode cX11_name 42 = .ok (.aload_n 0, 1) := by decide +kernel
theorem dX11_name_43 : decode cX11_name 43 = .ok (.ldc 103, 2) := by decide +kernel
theorem dX11_name_45 : decode cX11_name 45 = .ok (.iload_n 2, 1) := by decide +kernel
theorem dX11_name_46 : decode cX11_name 46 = .ok (.invokevirtual 105, 3) := by decide +kernel
theorem dX11_name_49 : decode cX11_name 49 = .ok (.istore_n 3, 1) := by decide +kernel
theorem dX11_name_50 : decode cX11_name 50 = .ok (.aload_n 0, 1) := by decide +kernel
theorem dX11_name_51 : decode cX11_name 51 = .ok (.iload_n 2, 1) := by decide +kernel
theorem dX11_name_52 : decode cX11_name 52 = .ok (.sipush 200, 3) := by decide +kernel
theorem dX11_name_55 : decode cX11_name 55 = .ok (.if_icmp .gt 7, 3) := by decide +kernel
theorem dX11_name_58 : decode cX11_name 58 = .ok (.iconst 1, 1) := by decide +kernel
theorem dX11_name_59 : decode cX11_name 59 = .ok (.goto 4, 3) := by decide +kernel
theorem dX11_name_62 : decode cX11_name 62 = .ok (.iconst 0, 1) := by decide +kernel
theorem dX11_name_63 : decode cX11_name 63 = .ok (.putfield 109, 3) := by decide +kernel
theorem dX11_name_66 : decode cX11_name 66 = .ok (.aload_n 0, 1) := by decide +kernel
theorem dX11_name_67 : decode cX11_name 67 = .ok (.iload_n 3, 1) := by decide +kernel
theorem dX11_name_68 : decode cX11_name 68 = .ok (.ifCond .le 7, 3) := by decide +kernel
theorem dX11_name_71 : decode cX11_name 71 = .ok (.iload_n 3, 1) := by decide +kernel
theorem dX11_name_72 : decode cX11_name 72 = .ok (.goto 5, 3) := by decide +kernel
theorem dX11_name_75 : decode cX11_name 75 = .ok (.bipush 60, 2) := by decide +kernel
theorem dX11_name_77 : decode cX11_name 77 = .ok (.putfield 113, 3) := by decide +kernel
theorem dX11_name_80 : decode cX11_name 80 = .ok (.aload_n 0, 1) := by decide +kernel
theorem dX11_name_81 : decode cX11_name 81 = .ok (.getfield 77, 3) := by decide +kernel
theorem dX11_name_84 : decode cX11_name 84 = .ok (.istore 4, 2) := by decide +kernel
theorem dX11_name_86 : decode cX11_name 86 = .ok (.iload 4, 2) := by decide +kernel
theorem dX11_name_88 : decode cX11_name 88 = .ok (.iload_n 1, 1) := by decide +kernel
theorem dX11_name_89 : decode cX11_name 89 = .ok (.if_icmp .ge 20, 3) := by decide +kernel
theorem dX11_name_92 : decode cX11_name 92 = .ok (.aload_n 0, 1) := by decide +kernel
theorem dX11_name_93 : decode cX11_name 93 = .ok (.aload_n 0, 1) := by decide +kernel
theorem dX11_name_94 : decode cX11_name 94 = .ok (.getfield 22, 3) := by decide +kernel
theorem dX11_name_97 : decode cX11_name 97 = .ok (.iload 4, 2) := by decide +kernel
theorem dX11_name_99 : decode cX11_name 99 = .ok (.iaload, 1) := by decide +kernel
theorem dX11_name_100 : decode cX11_name 100 = .ok (.invokevirtual 116, 3) := by decide +kernel
theorem dX11_name_103 : decode cX11_name 103 = .ok (.iinc 4 1, 3) := by decide +kernel
theorem dX11_name_106 : decode cX11_name 106 = .ok (.goto (-20), 3) := by decide +kernel
theorem dX11_name_109 : decode cX11_name 109 = .ok (.aload_n 0, 1) := by decide +kernel
theorem dX11_name_110 : decode cX11_name 110 = .ok (.iload_n 2, 1) := by decide +kernel
theorem dX11_name_111 : decode cX11_name 111 = .ok (.i2l, 1) := by decide +kernel
theorem dX11_name_112 : decode cX11_name 112 = .ok (.putfield 119, 3) := by decide +kernel
theorem dX11_name_115 : decode cX11_name 115 = .ok (.aload_n 0, 1) := by decide +kernel
theorem dX11_name_116 : decode cX11_name 116 = .ok (.iload_n 1, 1) := by decide +kernel
theorem dX11_name_117 : decode cX11_name 117 = .ok (.putfield 77, 3) := by decide +kernel
theorem dX11_name_120 : decode cX11_name 120 = .ok (.return_, 1) := by decide +kernel
theorem dX11_letter_0 : decode cX11_letter 0 = .ok (.aload_n 0, 1) := by decide +kernel
theorem dX11_letter_1 : decode cX11_letter 1 = .ok (.getfield 123, 3) := by decide +kernel
theorem dX11_letter_4 : decode cX11_letter 4 = .ok (.sipush 8192, 3) := by decide +kernel
theorem dX11_letter_7 : decode cX11_letter 7 = .ok (.if_icmp .ge 13, 3) := by decide +kernel
theorem dX11_letter_10 : decode cX11_letter 10 = .ok (.aload_n 0, 1) := by decide +kernel
theorem dX11_letter_11 : decode cX11_letter 11 = .ok (.getfield 37, 3) := by decide +kernel
theorem dX11_letter_14 : decode cX11_letter 14 = .ok (.aload_n 0, 1) := by decide +kernel
theorem dX11_letter_15 : decode cX11_letter 15 = .ok (.getfield 126, 3) := by decide +kernel
theorem dX11_letter_18 : decode cX11_letter 18 = .ok (.iload_n 1, 1) := by decide +kernel
theorem dX11_letter_19 : decode cX11_letter 19 = .ok (.iastore, 1) := by decide +kernel
theorem dX11_letter_20 : decode cX11_letter 20 = .ok (.aload_n 0, 1) := by decide +kernel
theorem dX11_letter_21 : decode cX11_letter 21 = .ok (.getfield 123, 3) := by decide +kernel
theorem dX11_letter_24 : decode cX11_letter 24 = .ok (.sipush 8192, 3) := by decide +kernel
theorem dX11_letter_27 : decode cX11_letter 27 = .ok (.if_icmp .ge 13, 3) := by decide +kernel
theorem dX11_letter_30 : decode cX11_letter 30 = .ok (.aload_n 0, 1) := by decide +kernel
theorem dX11_letter_31 : decode cX11_letter 31 = .ok (.dup, 1) := by decide +kernel
theorem dX11_letter_32 : decode cX11_letter 32 = .ok (.getfield 126, 3) := by decide +kernel
theorem dX11_letter_35 : decode cX11_letter 35 = .ok (.iconst 1, 1) := by decide +kernel
theorem dX11_letter_36 : decode cX11_letter 36 = .ok (.iadd, 1) := by decide +kernel
theorem dX11_letter_37 : decode cX11_letter 37 = .ok (.putfield 126, 3) := by decide +kernel
theorem dX11_letter_40 : decode cX11_letter 40 = .ok (.return_, 1) := by decide +kernel
set_option maxRecDepth 20000 in
theorem ggX11_sign_X11_among : GoodIn wsX11_sign wsX11_among := goodIn_r _ [9, 10, 1, 11, 12, 13, 14, 15, 16, 17, 18, 19, 20, 21, 22, 23, 24, 25, 26, 27, 28, 29, 30, 31, 32, 33, 34, 35, 36, 37, 38, 39, 40, 41, 42, 43, 44, 45, 46, 47, 48, 49, 50, 51, 52, 53, 54, 55, 56, 57, 58, 59, 60, 61, 62, 63, 64, 65, 66, 67, 68, 69, 70, 71, 72, 73, 74, 75, 76, 77, 78, 79, 80, 81, 82, 83, 84, 85, 86, 87, 88, 89, 90, 91, 92, 93, 94, 95, 96, 97, 98, 8, 99, 100, 101, 102, 103, 104, 105, 106, 107, 108, 109, 110, 111, 112, 113, 114, 115, 116, 117, 118, 119, 120, 121, 122, 123, 124, 125, 126, 127, 128, 129, 130, 131, 132, 133, 134, 135, 136, 137, 138, 139, 140] rfl (by decide +kernel)
set_option maxRecDepth 20000 in
theorem gX11_sign_X11_among : GoodIn wsX11_sign (wsV RX11 105 RX11 yX11_among wsX11_among) := goodIn_app (goodIn_of _ (by decide +kernel)) ggX11_sign_X11_among
theorem dX11_sign_0 : decode cX11_sign 0 = .ok (.iconst 0, 1) := by decide +kernel
theorem dX11_sign_1 : decode cX11_sign 1 = .ok (.istore_n 1, 1) := by decide +kernel
theorem dX11_sign_2 : decode cX11_sign 2 = .ok (.iconst 1, 1) := by decide +kernel
theorem dX11_sign_3 : decode cX11_sign 3 = .ok (.istore_n 2, 1) := by decide +kernel
theorem dX11_sign_4 : decode cX11_sign 4 = .ok (.iload_n 2, 1) := by decide +kernel
theorem dX11_sign_5 : decode cX11_sign 5 = .ok (.iconst 3, 1) := by decide +kernel
theorem dX11_sign_6 : decode cX11_sign 6 = .ok (.if_icmp .gt 34, 3) := by decide +kernel
theorem dX11_sign_9 : decode cX11_sign 9 = .ok (.aload_n 0, 1) := by decide +kernel
theorem dX11_sign_10 : decode cX11_sign 10 = .ok (.getfield 77, 3) := by decide +kernel
theorem dX11_sign_13 : decode cX11_sign 13 = .ok (.iload_n 2, 1) := by decide +kernel
theorem dX11_sign_14 : decode cX11_sign 14 = .ok (.iadd, 1) := by decide +kernel
theorem dX11_sign_15 : decode cX11_sign 15 = .ok (.aload_n 0, 1) := by decide +kernel
theorem dX11_sign_16 : decode cX11_sign 16 = .ok (.getfield 70, 3) := by decide +kernel
theorem dX11_sign_19 : decode cX11_sign 19 = .ok (.if_icmp .gt 15, 3) := by decide +kernel
theorem dX11_sign_22 : decode cX11_sign 22 = .ok (.aload_n 0, 1) := by decide +kernel
theorem dX11_sign_23 : decode cX11_sign 23 = .ok (.ldc 129, 2) := by decide +kernel
theorem dX11_sign_25 : decode cX11_sign 25 = .ok (.iload_n 2, 1) := by decide +kernel
theorem dX11_sign_26 : decode cX11_sign 26 = .ok (.invokevirtual 105, 3) := by decide +kernel
theorem dX11_sign_29 : decode cX11_sign 29 = .ok (.ifCond .le 5, 3) := by decide +kernel
theorem dX11_sign_32 : decode cX11_sign 32 = .ok (.iload_n 2, 1) := by decide +kernel
theorem dX11_sign_33 : decode cX11_sign 33 = .ok (.istore_n 1, 1) := by decide +kernel
theorem dX11_sign_34 : decode cX11_sign 34 = .ok (.iinc 2 1, 3) := by decide +kernel
theorem dX11_sign_37 : decode cX11_sign 37 = .ok (.goto (-33), 3) := by decide +kernel
theorem dX11_sign_40 : decode cX11_sign 40 = .ok (.aload_n 0, 1) := by decide +kernel
theorem dX11_sign_41 : decode cX11_sign 41 = .ok (.iload_n 1, 1) := by decide +kernel
theorem dX11_sign_42 : decode cX11_sign 42 = .ok (.ifCond .le 7, 3) := by decide +kernel
theorem dX11_sign_45 : decode cX11_sign 45 = .ok (.iconst 1, 1) := by decide +kernel
theorem dX11_sign_46 : decode cX11_sign 46 = .ok (.goto 4, 3) := by decide +kernel
theorem dX11_sign_49 : decode cX11_sign 49 = .ok (.iconst 0, 1) := by decide +kernel
theorem dX11_sign_50 : decode cX11_sign 50 = .ok (.putfield 109, 3) := by decide +kernel
theorem dX11_sign_53 : decode cX11_sign 53 = .ok (.aload_n 0, 1) := by decide +kernel
theorem dX11_sign_54 : decode cX11_sign 54 = .ok (.getfield 109, 3) := by decide +kernel
theorem dX11_sign_57 : decode cX11_sign 57 = .ok (.ifCond .ne 4, 3) := by decide +kernel
theorem dX11_sign_60 : decode cX11_sign 60 = .ok (.return_, 1) := by decide +kernel
theorem dX11_sign_61 : decode cX11_sign 61 = .ok (.aload_n 0, 1) := by decide +kernel
theorem dX11_sign_62 : decode cX11_sign 62 = .ok (.bipush 69, 2) := by decide +kernel
theorem dX11_sign_64 : decode cX11_sign 64 = .ok (.aload_n 0, 1) := by decide +kernel
theorem dX11_sign_65 : decode cX11_sign 65 = .ok (.ldc 129, 2) := by decide +kernel
theorem dX11_sign_67 : decode cX11_sign 67 = .ok (.iload_n 1, 1) := by decide +kernel
theorem dX11_sign_68 : decode cX11_sign 68 = .ok (.invokevirtual 105, 3) := by decide +kernel
theorem dX11_sign_71 : decode cX11_sign 71 = .ok (.iadd, 1) := by decide +kernel
theorem dX11_sign_72 : decode cX11_sign 72 = .ok (.putfield 113, 3) := by decide +kernel
theorem dX11_sign_75 : decode cX11_sign 75 = .ok (.aload_n 0, 1) := by decide +kernel
theorem dX11_sign_76 : decode cX11_sign 76 = .ok (.dup, 1) := by decide +kernel
theorem dX11_sign_77 : decode cX11_sign 77 = .ok (.getfield 77, 3) := by decide +kernel
theorem dX11_sign_80 : decode cX11_sign 80 = .ok (.iload_n 1, 1) := by decide +kernel
theorem dX11_sign_81 : decode cX11_sign 81 = .ok (.iadd, 1) := by decide +kernel
theorem dX11_sign_82 : decode cX11_sign 82 = .ok (.putfield 77, 3) := by decide +kernel
theorem dX11_sign_85 : decode cX11_sign 85 = .ok (.return_, 1) := by decide +kernel
set_option maxRecDepth 20000 in
theorem ggX11_character_X11_see : GoodIn wsX11_character wsX11_see := goodIn_r _ [6, 7, 8, 12, 13, 14, 15, 16, 17, 18, 19, 20, 21, 22, 23, 24, 25, 26, 27, 28, 29, 30, 31, 32] rfl (by decide +kernel)
set_option maxRecDepth 20000 in
theorem gX11_character_X11_see : GoodIn wsX11_character (wsV RX11 80 RX11 yX11_see wsX11_see) := goodIn_app (goodIn_of _ (by decide +kernel)) ggX11_character_X11_see
set_option maxRecDepth 20000 in
theorem ggX11_character_X11_digit : GoodIn wsX11_character wsX11_digit := goodIn_r _ [11] rfl (by decide +kernel)
set_option maxRecDepth 20000 in
theorem gX11_character_X11_digit : GoodIn wsX11_character (va_wsS RX11 73 yX11_digit wsX11_digit) := goodIn_app (goodIn_of _ (by decide +kernel)) ggX11_character_X11_digit
theorem dX11_character_0 : decode cX11_character 0 = .ok (.aload_n 0, 1) := by decide +kernel
theorem dX11_character_1 : decode cX11_character 1 = .ok (.aload_n 0, 1) := by decide +kernel
theorem dX11_character_2 : decode cX11_character 2 = .ok (.getfield 77, 3) := by decide +kernel
theorem dX11_character_5 : decode cX11_character 5 = .ok (.invokevirtual 80, 3) := by decide +kernel
theorem dX11_character_8 : decode cX11_character 8 = .ok (.istore_n 2, 1) := by decide +kernel
theorem dX11_character_9 : decode cX11_character 9 = .ok (.iload_n 2, 1) := by decide +kernel
theorem dX11_character_10 : decode cX11_character 10 = .ok (.ifCond .lt 20, 3) := by decide +kernel
theorem dX11_character_13 : decode cX11_character 13 = .ok (.iload_n 2, 1) := by decide +kernel
theorem dX11_character_14 : decode cX11_character 14 = .ok (.bipush 10, 2) := by decide +kernel
theorem dX11_character_16 : decode cX11_character 16 = .ok (.if_icmp .eq 14, 3) := by decide +kernel
theorem dX11_character_19 : decode cX11_character 19 = .ok (.iload_n 2, 1) := by decide +kernel
theorem dX11_character_20 : decode cX11_character 20 = .ok (.bipush 13, 2) := by decide +kernel
theorem dX11_character_22 : decode cX11_character 22 = .ok (.if_icmp .eq 8, 3) := by decide +kernel
theorem dX11_character_25 : decode cX11_character 25 = .ok (.iload_n 2, 1) := by decide +kernel
theorem dX11_character_26 : decode cX11_character 26 = .ok (.iload_n 1, 1) := by decide +kernel
theorem dX11_character_27 : decode cX11_character 27 = .ok (.if_icmp .ne 5, 3) := by decide +kernel
theorem dX11_character_30 : decode cX11_character 30 = .ok (.iconst (-1), 1) := by decide +kernel
theorem dX11_character_31 : decode cX11_character 31 = .ok (.ireturn, 1) := by decide +kernel
theorem dX11_character_32 : decode cX11_character 32 = .ok (.aload_n 0, 1) := by decide +kernel
theorem dX11_character_33 : decode cX11_character 33 = .ok (.dup, 1) := by decide +kernel
theorem dX11_character_34 : decode cX11_character 34 = .ok (.getfield 77, 3) := by decide +kernel
theorem dX11_character_37 : decode cX11_character 37 = .ok (.iconst 1, 1) := by decide +kernel
theorem dX11_character_38 : decode cX11_character 38 = .ok (.iadd, 1) := by decide +kernel
theorem dX11_character_39 : decode cX11_character 39 = .ok (.putfield 77, 3) := by decide +kernel
theorem dX11_character_42 : decode cX11_character 42 = .ok (.iload_n 2, 1) := by decide +kernel
theorem dX11_character_43 : decode cX11_character 43 = .ok (.bipush 92, 2) := by decide +kernel
theorem dX11_character_45 : decode cX11_character 45 = .ok (.if_icmp .eq 5, 3) := by decide +kernel
theorem dX11_character_48 : decode cX11_character 48 = .ok (.iload_n 2, 1) := by decide +kernel
theorem dX11_character_49 : decode cX11_character 49 = .ok (.ireturn, 1) := by decide +kernel
theorem dX11_character_50 : decode cX11_character 50 = .ok (.aload_n 0, 1) := by decide +kernel
theorem dX11_character_51 : decode cX11_character 51 = .ok (.aload_n 0, 1) := by decide +kernel
theorem dX11_character_52 : decode cX11_character 52 = .ok (.getfield 77, 3) := by decide +kernel
theorem dX11_character_55 : decode cX11_character 55 = .ok (.invokevirtual 80, 3) := by decide +kernel
theorem dX11_character_58 : decode cX11_character 58 = .ok (.istore_n 3, 1) := by decide +kernel
theorem dX11_character_59 : decode cX11_character 59 = .ok (.aload_n 0, 1) := by decide +kernel
theorem dX11_character_60 : decode cX11_character 60 = .ok (.dup, 1) := by decide +kernel
theorem dX11_character_61 : decode cX11_character 61 = .ok (.getfield 77, 3) := by decide +kernel
theorem dX11_character_64 : decode cX11_character 64 = .ok (.iconst 1, 1) := by decide +kernel
theorem dX11_character_65 : decode cX11_character 65 = .ok (.iadd, 1) := by decide +kernel
theorem dX11_character_66 : decode cX11_character 66 = .ok (.putfield 77, 3) := by decide +kernel
theorem dX11_character_69 : decode cX11_character 69 = .ok (.iload_n 3, 1) := by decide +kernel
theorem dX11_character_70 : decode cX11_character 70 = .ok (.bipush 98, 2) := by decide +kernel
theorem dX11_character_72 : decode cX11_character 72 = .ok (.if_icmp .ne 6, 3) := by decide +kernel
theorem dX11_character_75 : decode cX11_character 75 = .ok (.bipush 8, 2) := by decide +kernel
theorem dX11_character_77 : decode cX11_character 77 = .ok (.ireturn, 1) := by decide +kernel
theorem dX11_character_78 : decode cX11_character 78 = .ok (.iload_n 3, 1) := by decide +kernel
theorem dX11_character_79 : decode cX11_character 79 = .ok (.bipush 116, 2) := by decide +kernel
theorem dX11_character_81 : decode cX11_character 81 = .ok (.if_icmp .ne 6, 3) := by decide +kernel
theorem dX11_character_84 : decode cX11_character 84 = .ok (.bipush 9, 2) := by decide +kernel
theorem dX11_character_86 : decode cX11_character 86 = .ok (.ireturn, 1) := by decide +kernel
theorem dX11_character_87 : decode cX11_character 87 = .ok (.iload_n 3, 1) := by decide +kernel
theorem dX11_character_88 : decode cX11_character 88 = .ok (.bipush 110, 2) := by decide +kernel
theorem dX11_character_90 : decode cX11_character 90 = .ok (.if_icmp .ne 6, 3) := by decide +kernel
theorem dX11_character_93 : decode cX11_character 93 = .ok (.bipush 10, 2) := by decide +kernel
theorem dX11_character_95 : decode cX11_character 95 = .ok (.ireturn, 1) := by decide +kernel
theorem dX11_character_96 : decode cX11_character 96 = .ok (.iload_n 3, 1) := by decide +kernel
theorem dX11_character_97 : decode cX11_character 97 = .ok (.bipush 102, 2) := by decide +kernel
theorem dX11_character_99 : decode cX11_character 99 = .ok (.if_icmp .ne 6, 3) := by decide +kernel
theorem dX11_character_102 : decode cX11_character 102 = .ok (.bipush 12, 2) := by decide +kernel
theorem dX11_character_104 : decode cX11_character 104 = .ok (.ireturn, 1) := by decide +kernel
theorem dX11_character_105 : decode cX11_character 105 = .ok (.iload_n 3, 1) := by decide +kernel
theorem dX11_character_106 : decode cX11_character 106 = .ok (.bipush 114, 2) := by decide +kernel
theorem dX11_character_108 : decode cX11_character 108 = .ok (.if_icmp .ne 6, 3) := by decide +kernel
theorem dX11_character_111 : decode cX11_character 111 = .ok (.bipush 13, 2) := by decide +kernel
theorem dX11_character_113 : decode cX11_character 113 = .ok (.ireturn, 1) := by decide +kernel
theorem dX11_character_114 : decode cX11_character 114 = .ok (.iload_n 3, 1) := by decide +kernel
theorem dX11_character_115 : decode cX11_character 115 = .ok (.bipush 34, 2) := by decide +kernel
theorem dX11_character_117 : decode cX11_character 117 = .ok (.if_icmp .eq 15, 3) := by decide +kernel
theorem dX11_character_120 : decode cX11_character 120 = .ok (.iload_n 3, 1) := by decide +kernel
theorem dX11_character_121 : decode cX11_character 121 = .ok (.bipush 39, 2) := by decide +kernel
theorem dX11_character_123 : decode cX11_character 123 = .ok (.if_icmp .eq 9, 3) := by decide +kernel
theorem dX11_character_126 : decode cX11_character 126 = .ok (.iload_n 3, 1) := by decide +kernel
theorem dX11_character_127 : decode cX11_character 127 = .ok (.bipush 92, 2) := by decide +kernel
theorem dX11_character_129 : decode cX11_character 129 = .ok (.if_icmp .ne 5, 3) := by decide +kernel
theorem dX11_character_132 : decode cX11_character 132 = .ok (.iload_n 3, 1) := by decide +kernel
theorem dX11_character_133 : decode cX11_character 133 = .ok (.ireturn, 1) := by decide +kernel
theorem dX11_character_134 : decode cX11_character 134 = .ok (.iload_n 3, 1) := by decide +kernel
theorem dX11_character_135 : decode cX11_character 135 = .ok (.bipush 8, 2) := by decide +kernel
theorem dX11_character_137 : decode cX11_character 137 = .ok (.invokestatic 73, 3) := by decide +kernel
theorem dX11_character_140 : decode cX11_character 140 = .ok (.istore 4, 2) := by decide +kernel
theorem dX11_character_142 : decode cX11_character 142 = .ok (.iload 4, 2) := by decide +kernel
theorem dX11_character_144 : decode cX11_character 144 = .ok (.iconst 4, 1) := by decide +kernel
theorem dX11_character_145 : decode cX11_character 145 = .ok (.if_icmp .ge 7, 3) := by decide +kernel
theorem dX11_character_148 : decode cX11_character 148 = .ok (.iconst 2, 1) := by decide +kernel
theorem dX11_character_149 : decode cX11_character 149 = .ok (.goto 4, 3) := by decide +kernel
theorem dX11_character_152 : decode cX11_character 152 = .ok (.iconst 1, 1) := by decide +kernel
theorem dX11_character_153 : decode cX11_character 153 = .ok (.istore 5, 2) := by decide +kernel
theorem dX11_character_155 : decode cX11_character 155 = .ok (.iload 4, 2) := by decide +kernel
theorem dX11_character_157 : decode cX11_character 157 = .ok (.ifCond .ge 5, 3) := by decide +kernel
theorem dX11_character_160 : decode cX11_character 160 = .ok (.iconst (-1), 1) := by decide +kernel
theorem dX11_character_161 : decode cX11_character 161 = .ok (.ireturn, 1) := by decide +kernel
theorem dX11_character_162 : decode cX11_character 162 = .ok (.iconst 0, 1) := by decide +kernel
theorem dX11_character_163 : decode cX11_character 163 = .ok (.istore 6, 2) := by decide +kernel
theorem dX11_character_165 : decode cX11_character 165 = .ok (.iload 6, 2) := by decide +kernel
theorem dX11_character_167 : decode cX11_character 167 = .ok (.iload 5, 2) := by decide +kernel
theorem dX11_character_169 : decode cX11_character 169 = .ok (.if_icmp .ge 56, 3) := by decide +kernel
theorem dX11_character_172 : decode cX11_character 172 = .ok (.aload_n 0, 1) := by decide +kernel
theorem dX11_character_173 : decode cX11_character 173 = .ok (.aload_n 0, 1) := by decide +kernel
theorem dX11_character_174 : decode cX11_character 174 = .ok (.getfield 77, 3) := by decide +kernel
theorem dX11_character_177 : decode cX11_character 177 = .ok (.invokevirtual 80, 3) := by decide +kernel
theorem dX11_character_180 : decode cX11_character 180 = .ok (.bipush 8, 2) := by decide +kernel
theorem dX11_character_182 : decode cX11_character 182 = .ok (.invokestatic 73, 3) := by decide +kernel
theorem dX11_character_185 : decode cX11_character 185 = .ok (.ifCond .lt 40, 3) := by decide +kernel
theorem dX11_character_188 : decode cX11_character 188 = .ok (.bipush 8, 2) := by decide +kernel
theorem dX11_character_190 : decode cX11_character 190 = .ok (.iload 4, 2) := by decide +kernel
theorem dX11_character_192 : decode cX11_character 192 = .ok (.imul, 1) := by decide +kernel
theorem dX11_character_193 : decode cX11_character 193 = .ok (.aload_n 0, 1) := by decide +kernel
theorem dX11_character_194 : decode cX11_character 194 = .ok (.aload_n 0, 1) := by decide +kernel
theorem dX11_character_195 : decode cX11_character 195 = .ok (.getfield 77, 3) := by decide +kernel
theorem dX11_character_198 : decode cX11_character 198 = .ok (.invokevirtual 80, 3) := by decide +kernel
theorem dX11_character_201 : decode cX11_character 201 = .ok (.bipush 8, 2) := by decide +kernel
theorem dX11_character_203 : decode cX11_character 203 = .ok (.invokestatic 73, 3) := by decide +kernel
theorem dX11_character_206 : decode cX11_character 206 = .ok (.iadd, 1) := by decide +kernel
theorem dX11_character_207 : decode cX11_character 207 = .ok (.istore 4, 2) := by decide +kernel
theorem dX11_character_209 : decode cX11_character 209 = .ok (.aload_n 0, 1) := by decide +kernel
theorem dX11_character_210 : decode cX11_character 210 = .ok (.dup, 1) := by decide +kernel
theorem dX11_character_211 : decode cX11_character 211 = .ok (.getfield 77, 3) := by decide +kernel
theorem dX11_character_214 : decode cX11_character 214 = .ok (.iconst 1, 1) := by decide +kernel
theorem dX11_character_215 : decode cX11_character 215 = .ok (.iadd, 1) := by decide +kernel
theorem dX11_character_216 : decode cX11_character 216 = .ok (.putfield 77, 3) := by decide +kernel
theorem dX11_character_219 : decode cX11_character 219 = .ok (.iinc 6 1, 3) := by decide +kernel
theorem dX11_character_222 : decode cX11_character 222 = .ok (.goto (-57), 3) := by decide +kernel
theorem dX11_character_225 : decode cX11_character 225 = .ok (.iload 4, 2) := by decide +kernel
theorem dX11_character_227 : decode cX11_character 227 = .ok (.ireturn, 1) := by decide +kernel
set_option maxRecDepth 20000 in
theorem ggX11_quoted_X11_character : GoodIn wsX11_quoted wsX11_character := goodIn_r _ [9, 1, 10, 11, 12, 8, 13, 14, 15, 16, 17, 18, 19, 20, 21, 22, 23, 24, 25, 26, 27, 28, 29, 30, 31, 32, 33, 34, 35, 36, 37, 38, 39] rfl (by decide +kernel)
set_option maxRecDepth 20000 in
theorem gX11_quoted_X11_character : GoodIn wsX11_quoted (wsV RX11 131 RX11 yX11_character wsX11_character) := goodIn_app (goodIn_of _ (by decide +kernel)) ggX11_quoted_X11_character
set_option maxRecDepth 20000 in
theorem ggX11_quoted_X11_see : GoodIn wsX11_quoted wsX11_see := goodIn_r _ [13, 14, 15, 19, 20, 21, 22, 23, 24, 25, 26, 27, 28, 29, 30, 31, 32, 33, 34, 35, 36, 37, 38, 39] rfl (by decide +kernel)
set_option maxRecDepth 20000 in
theorem gX11_quoted_X11_see : GoodIn wsX11_quoted (wsV RX11 80 RX11 yX11_see wsX11_see) := goodIn_app (goodIn_of _ (by decide +kernel)) ggX11_quoted_X11_see
theorem dX11_quoted_0 : decode cX11_quoted 0 = .ok (.aload_n 0, 1) := by decide +kernel
theorem dX11_quoted_1 : decode cX11_quoted 1 = .ok (.dup, 1) := by decide +kernel
theorem dX11_quoted_2 : decode cX11_quoted 2 = .ok (.getfield 77, 3) := by decide +kernel
theorem dX11_quoted_5 : decode cX11_quoted 5 = .ok (.iconst 1, 1) := by decide +kernel
theorem dX11_quoted_6 : decode cX11_quoted 6 = .ok (.iadd, 1) := by decide +kernel
theorem dX11_quoted_7 : decode cX11_quoted 7 = .ok (.putfield 77, 3) := by decide +kernel
theorem dX11_quoted_10 : decode cX11_quoted 10 = .ok (.aload_n 0, 1) := by decide +kernel
theorem dX11_quoted_11 : decode cX11_quoted 11 = .ok (.aload_n 0, 1) := by decide +kernel
theorem dX11_quoted_12 : decode cX11_quoted 12 = .ok (.bipush 39, 2) := by decide +kernel
theorem dX11_quoted_14 : decode cX11_quoted 14 = .ok (.invokevirtual 131, 3) := by decide +kernel
theorem dX11_quoted_17 : decode cX11_quoted 17 = .ok (.i2l, 1) := by decide +kernel
theorem dX11_quoted_18 : decode cX11_quoted 18 = .ok (.putfield 119, 3) := by decide +kernel
theorem dX11_quoted_21 : decode cX11_quoted 21 = .ok (.aload_n 0, 1) := by decide +kernel
theorem dX11_quoted_22 : decode cX11_quoted 22 = .ok (.aload_n 0, 1) := by decide +kernel
theorem dX11_quoted_23 : decode cX11_quoted 23 = .ok (.getfield 119, 3) := by decide +kernel
theorem dX11_quoted_26 : decode cX11_quoted 26 = .ok (.lconst 0, 1) := by decide +kernel
theorem dX11_quoted_27 : decode cX11_quoted 27 = .ok (.lcmp, 1) := by decide +kernel
theorem dX11_quoted_28 : decode cX11_quoted 28 = .ok (.ifCond .lt 20, 3) := by decide +kernel
theorem dX11_quoted_31 : decode cX11_quoted 31 = .ok (.aload_n 0, 1) := by decide +kernel
theorem dX11_quoted_32 : decode cX11_quoted 32 = .ok (.aload_n 0, 1) := by decide +kernel
theorem dX11_quoted_33 : decode cX11_quoted 33 = .ok (.getfield 77, 3) := by decide +kernel
theorem dX11_quoted_36 : decode cX11_quoted 36 = .ok (.invokevirtual 80, 3) := by decide +kernel
theorem dX11_quoted_39 : decode cX11_quoted 39 = .ok (.bipush 39, 2) := by decide +kernel
theorem dX11_quoted_41 : decode cX11_quoted 41 = .ok (.if_icmp .ne 7, 3) := by decide +kernel
theorem dX11_quoted_44 : decode cX11_quoted 44 = .ok (.iconst 1, 1) := by decide +kernel
theorem dX11_quoted_45 : decode cX11_quoted 45 = .ok (.goto 4, 3) := by decide +kernel
theorem dX11_quoted_48 : decode cX11_quoted 48 = .ok (.iconst 0, 1) := by decide +kernel
theorem dX11_quoted_49 : decode cX11_quoted 49 = .ok (.putfield 109, 3) := by decide +kernel
theorem dX11_quoted_52 : decode cX11_quoted 52 = .ok (.aload_n 0, 1) := by decide +kernel
theorem dX11_quoted_53 : decode cX11_quoted 53 = .ok (.dup, 1) := by decide +kernel
theorem dX11_quoted_54 : decode cX11_quoted 54 = .ok (.getfield 77, 3) := by decide +kernel
theorem dX11_quoted_57 : decode cX11_quoted 57 = .ok (.iconst 1, 1) := by decide +kernel
theorem dX11_quoted_58 : decode cX11_quoted 58 = .ok (.iadd, 1) := by decide +kernel
theorem dX11_quoted_59 : decode cX11_quoted 59 = .ok (.putfield 77, 3) := by decide +kernel
theorem dX11_quoted_62 : decode cX11_quoted 62 = .ok (.aload_n 0, 1) := by decide +kernel
theorem dX11_quoted_63 : decode cX11_quoted 63 = .ok (.bipush 65, 2) := by decide +kernel
theorem dX11_quoted_65 : decode cX11_quoted 65 = .ok (.putfield 113, 3) := by decide +kernel
theorem dX11_quoted_68 : decode cX11_quoted 68 = .ok (.return_, 1) := by decide +kernel
set_option maxRecDepth 20000 in
theorem ggX11_row_X11_see : GoodIn wsX11_row wsX11_see := goodIn_r _ [9, 10, 11, 26, 27, 28, 29, 30, 31, 32, 33, 34, 35, 36, 37, 38, 39, 40, 41, 42, 43, 44, 45, 46] rfl (by decide +kernel)
set_option maxRecDepth 20000 in
theorem gX11_row_X11_see : GoodIn wsX11_row (wsV RX11 80 RX11 yX11_see wsX11_see) := goodIn_app (goodIn_of _ (by decide +kernel)) ggX11_row_X11_see
set_option maxRecDepth 20000 in
theorem ggX11_row_X11_character : GoodIn wsX11_row wsX11_character := goodIn_r _ [15, 1, 5, 6, 7, 8, 9, 10, 11, 16, 17, 18, 26, 27, 28, 29, 30, 31, 32, 33, 34, 35, 36, 37, 38, 39, 40, 41, 42, 43, 44, 45, 46] rfl (by decide +kernel)
set_option maxRecDepth 20000 in
theorem gX11_row_X11_character : GoodIn wsX11_row (wsV RX11 131 RX11 yX11_character wsX11_character) := goodIn_app (goodIn_of _ (by decide +kernel)) ggX11_row_X11_character
set_option maxRecDepth 20000 in
theorem ggX11_row_X11_letter : GoodIn wsX11_row wsX11_letter := goodIn_r _ [22, 23, 24, 25, 26, 27, 28, 29, 30, 31, 32, 33, 34, 35, 36, 37, 38, 39, 40, 41, 42, 43, 44, 45, 46] rfl (by decide +kernel)
set_option maxRecDepth 20000 in
theorem gX11_row_X11_letter : GoodIn wsX11_row (wsV RX11 116 RX11 yX11_letter wsX11_letter) := goodIn_app (goodIn_of _ (by decide +kernel)) ggX11_row_X11_letter
theorem dX11_row_0 : decode cX11_row 0 = .ok (.aload_n 0, 1) := by decide +kernel
theorem dX11_row_1 : decode cX11_row 1 = .ok (.dup, 1) := by decide +kernel
theorem dX11_row_2 : decode cX11_row 2 = .ok (.getfield 77, 3) := by decide +kernel
theorem dX11_row_5 : decode cX11_row 5 = .ok (.iconst 1, 1) := by decide +kernel
theorem dX11_row_6 : decode cX11_row 6 = .ok (.iadd, 1) := by decide +kernel
theorem dX11_row_7 : decode cX11_row 7 = .ok (.putfield 77, 3) := by decide +kernel
theorem dX11_row_10 : decode cX11_row 10 = .ok (.aload_n 0, 1) := by decide +kernel
theorem dX11_row_11 : decode cX11_row 11 = .ok (.bipush 66, 2) := by decide +kernel
theorem dX11_row_13 : decode cX11_row 13 = .ok (.putfield 113, 3) := by decide +kernel
theorem dX11_row_16 : decode cX11_row 16 = .ok (.iconst 0, 1) := by decide +kernel
theorem dX11_row_17 : decode cX11_row 17 = .ok (.istore_n 1, 1) := by decide +kernel
theorem dX11_row_18 : decode cX11_row 18 = .ok (.aload_n 0, 1) := by decide +kernel
theorem dX11_row_19 : decode cX11_row 19 = .ok (.getfield 109, 3) := by decide +kernel
theorem dX11_row_22 : decode cX11_row 22 = .ok (.ifCond .eq 61, 3) := by decide +kernel
theorem dX11_row_25 : decode cX11_row 25 = .ok (.aload_n 0, 1) := by decide +kernel
theorem dX11_row_26 : decode cX11_row 26 = .ok (.aload_n 0, 1) := by decide +kernel
theorem dX11_row_27 : decode cX11_row 27 = .ok (.getfield 77, 3) := by decide +kernel
theorem dX11_row_30 : decode cX11_row 30 = .ok (.invokevirtual 80, 3) := by decide +kernel
theorem dX11_row_33 : decode cX11_row 33 = .ok (.bipush 34, 2) := by decide +kernel
theorem dX11_row_35 : decode cX11_row 35 = .ok (.if_icmp .eq 48, 3) := by decide +kernel
theorem dX11_row_38 : decode cX11_row 38 = .ok (.aload_n 0, 1) := by decide +kernel
theorem dX11_row_39 : decode cX11_row 39 = .ok (.bipush 34, 2) := by decide +kernel
theorem dX11_row_41 : decode cX11_row 41 = .ok (.invokevirtual 131, 3) := by decide +kernel
theorem dX11_row_44 : decode cX11_row 44 = .ok (.istore_n 2, 1) := by decide +kernel
theorem dX11_row_45 : decode cX11_row 45 = .ok (.aload_n 0, 1) := by decide +kernel
theorem dX11_row_46 : decode cX11_row 46 = .ok (.iload_n 2, 1) := by decide +kernel
theorem dX11_row_47 : decode cX11_row 47 = .ok (.ifCond .lt 7, 3) := by decide +kernel
theorem dX11_row_50 : decode cX11_row 50 = .ok (.iconst 1, 1) := by decide +kernel
theorem dX11_row_51 : decode cX11_row 51 = .ok (.goto 4, 3) := by decide +kernel
theorem dX11_row_54 : decode cX11_row 54 = .ok (.iconst 0, 1) := by decide +kernel
theorem dX11_row_55 : decode cX11_row 55 = .ok (.putfield 109, 3) := by decide +kernel
theorem dX11_row_58 : decode cX11_row 58 = .ok (.aload_n 0, 1) := by decide +kernel
theorem dX11_row_59 : decode cX11_row 59 = .ok (.getfield 109, 3) := by decide +kernel
theorem dX11_row_62 : decode cX11_row 62 = .ok (.ifCond .eq 15, 3) := by decide +kernel
theorem dX11_row_65 : decode cX11_row 65 = .ok (.iload_n 1, 1) := by decide +kernel
theorem dX11_row_66 : decode cX11_row 66 = .ok (.sipush 4000, 3) := by decide +kernel
theorem dX11_row_69 : decode cX11_row 69 = .ok (.if_icmp .gt 8, 3) := by decide +kernel
theorem dX11_row_72 : decode cX11_row 72 = .ok (.aload_n 0, 1) := by decide +kernel
theorem dX11_row_73 : decode cX11_row 73 = .ok (.iload_n 2, 1) := by decide +kernel
theorem dX11_row_74 : decode cX11_row 74 = .ok (.invokevirtual 116, 3) := by decide +kernel
theorem dX11_row_77 : decode cX11_row 77 = .ok (.iinc 1 1, 3) := by decide +kernel
theorem dX11_row_80 : decode cX11_row 80 = .ok (.goto (-62), 3) := by decide +kernel
theorem dX11_row_83 : decode cX11_row 83 = .ok (.aload_n 0, 1) := by decide +kernel
theorem dX11_row_84 : decode cX11_row 84 = .ok (.dup, 1) := by decide +kernel
theorem dX11_row_85 : decode cX11_row 85 = .ok (.getfield 77, 3) := by decide +kernel
theorem dX11_row_88 : decode cX11_row 88 = .ok (.iconst 1, 1) := by decide +kernel
theorem dX11_row_89 : decode cX11_row 89 = .ok (.iadd, 1) := by decide +kernel
theorem dX11_row_90 : decode cX11_row 90 = .ok (.putfield 77, 3) := by decide +kernel
theorem dX11_row_93 : decode cX11_row 93 = .ok (.aload_n 0, 1) := by decide +kernel
theorem dX11_row_94 : decode cX11_row 94 = .ok (.aload_n 0, 1) := by decide +kernel
theorem dX11_row_95 : decode cX11_row 95 = .ok (.getfield 109, 3) := by decide +kernel
theorem dX11_row_98 : decode cX11_row 98 = .ok (.ifCond .eq 14, 3) := by decide +kernel
theorem dX11_row_101 : decode cX11_row 101 = .ok (.iload_n 1, 1) := by decide +kernel
theorem dX11_row_102 : decode cX11_row 102 = .ok (.sipush 4000, 3) := by decide +kernel
theorem dX11_row_105 : decode cX11_row 105 = .ok (.if_icmp .gt 7, 3) := by decide +kernel
theorem dX11_row_108 : decode cX11_row 108 = .ok (.iconst 1, 1) := by decide +kernel
theorem dX11_row_109 : decode cX11_row 109 = .ok (.goto 4, 3) := by decide +kernel
theorem dX11_row_112 : decode cX11_row 112 = .ok (.iconst 0, 1) := by decide +kernel
theorem dX11_row_113 : decode cX11_row 113 = .ok (.putfield 109, 3) := by decide +kernel
theorem dX11_row_116 : decode cX11_row 116 = .ok (.aload_n 0, 1) := by decide +kernel
theorem dX11_row_117 : decode cX11_row 117 = .ok (.iload_n 1, 1) := by decide +kernel
theorem dX11_row_118 : decode cX11_row 118 = .ok (.i2l, 1) := by decide +kernel
theorem dX11_row_119 : decode cX11_row 119 = .ok (.putfield 119, 3) := by decide +kernel
theorem dX11_row_122 : decode cX11_row 122 = .ok (.return_, 1) := by decide +kernel
set_option maxRecDepth 20000 in
theorem ggX11_digits_X11_see : GoodIn wsX11_digits wsX11_see := goodIn_r _ [5, 6, 7, 11, 12, 13, 14, 15, 16, 17, 18, 19, 20, 21, 22, 23, 24, 25, 26, 27, 28, 29, 30, 31] rfl (by decide +kernel)
set_option maxRecDepth 20000 in
theorem gX11_digits_X11_see : GoodIn wsX11_digits (wsV RX11 80 RX11 yX11_see wsX11_see) := goodIn_app (goodIn_of _ (by decide +kernel)) ggX11_digits_X11_see
set_option maxRecDepth 20000 in
theorem ggX11_digits_X11_digit : GoodIn wsX11_digits wsX11_digit := goodIn_r _ [10] rfl (by decide +kernel)
set_option maxRecDepth 20000 in
theorem gX11_digits_X11_digit : GoodIn wsX11_digits (va_wsS RX11 73 yX11_digit wsX11_digit) := goodIn_app (goodIn_of _ (by decide +kernel)) ggX11_digits_X11_digit
theorem dX11_digits_0 : decode cX11_digits 0 = .ok (.iload_n 1, 1) := by decide +kernel
theorem dX11_digits_1 : decode cX11_digits 1 = .ok (.istore_n 3, 1) := by decide +kernel
theorem dX11_digits_2 : decode cX11_digits 2 = .ok (.iload_n 1, 1) := by decide +kernel
theorem dX11_digits_3 : decode cX11_digits 3 = .ok (.istore 4, 2) := by decide +kernel
theorem dX11_digits_5 : decode cX11_digits 5 = .ok (.aload_n 0, 1) := by decide +kernel
theorem dX11_digits_6 : decode cX11_digits 6 = .ok (.iload 4, 2) := by decide +kernel
theorem dX11_digits_8 : decode cX11_digits 8 = .ok (.invokevirtual 80, 3) := by decide +kernel
theorem dX11_digits_11 : decode cX11_digits 11 = .ok (.iload_n 2, 1) := by decide +kernel
theorem dX11_digits_12 : decode cX11_digits 12 = .ok (.invokestatic 73, 3) := by decide +kernel
theorem dX11_digits_15 : decode cX11_digits 15 = .ok (.ifCond .ge 20, 3) := by decide +kernel
theorem dX11_digits_18 : decode cX11_digits 18 = .ok (.aload_n 0, 1) := by decide +kernel
theorem dX11_digits_19 : decode cX11_digits 19 = .ok (.iload 4, 2) := by decide +kernel
theorem dX11_digits_21 : decode cX11_digits 21 = .ok (.invokevirtual 80, 3) := by decide +kernel
theorem dX11_digits_24 : decode cX11_digits 24 = .ok (.bipush 95, 2) := by decide +kernel
theorem dX11_digits_26 : decode cX11_digits 26 = .ok (.if_icmp .ne 31, 3) := by decide +kernel
theorem dX11_digits_29 : decode cX11_digits 29 = .ok (.iload 4, 2) := by decide +kernel
theorem dX11_digits_31 : decode cX11_digits 31 = .ok (.iload_n 1, 1) := by decide +kernel
theorem dX11_digits_32 : decode cX11_digits 32 = .ok (.if_icmp .le 25, 3) := by decide +kernel
theorem dX11_digits_35 : decode cX11_digits 35 = .ok (.aload_n 0, 1) := by decide +kernel
theorem dX11_digits_36 : decode cX11_digits 36 = .ok (.iload 4, 2) := by decide +kernel
theorem dX11_digits_38 : decode cX11_digits 38 = .ok (.invokevirtual 80, 3) := by decide +kernel
theorem dX11_digits_41 : decode cX11_digits 41 = .ok (.bipush 95, 2) := by decide +kernel
theorem dX11_digits_43 : decode cX11_digits 43 = .ok (.if_icmp .eq 8, 3) := by decide +kernel
theorem dX11_digits_46 : decode cX11_digits 46 = .ok (.iload 4, 2) := by decide +kernel
theorem dX11_digits_48 : decode cX11_digits 48 = .ok (.iconst 1, 1) := by decide +kernel
theorem dX11_digits_49 : decode cX11_digits 49 = .ok (.iadd, 1) := by decide +kernel
theorem dX11_digits_50 : decode cX11_digits 50 = .ok (.istore_n 3, 1) := by decide +kernel
theorem dX11_digits_51 : decode cX11_digits 51 = .ok (.iinc 4 1, 3) := by decide +kernel
theorem dX11_digits_54 : decode cX11_digits 54 = .ok (.goto (-49), 3) := by decide +kernel
theorem dX11_digits_57 : decode cX11_digits 57 = .ok (.iload_n 3, 1) := by decide +kernel
theorem dX11_digits_58 : decode cX11_digits 58 = .ok (.ireturn, 1) := by decide +kernel
set_option maxRecDepth 20000 in
theorem ggX11_power_X11_see : GoodIn wsX11_power wsX11_see := goodIn_r _ [5, 6, 7, 15, 16, 17, 18, 19, 20, 21, 22, 23, 24, 25, 26, 27, 28, 29, 30, 31, 32, 33, 34, 35] rfl (by decide +kernel)
set_option maxRecDepth 20000 in
theorem gX11_power_X11_see : GoodIn wsX11_power (wsV RX11 80 RX11 yX11_see wsX11_see) := goodIn_app (goodIn_of _ (by decide +kernel)) ggX11_power_X11_see
set_option maxRecDepth 20000 in
theorem ggX11_power_X11_digits : GoodIn wsX11_power wsX11_digits := goodIn_r _ [11, 1, 2, 3, 4, 5, 6, 7, 12, 13, 14, 15, 16, 17, 18, 19, 20, 21, 22, 23, 24, 25, 26, 27, 28, 29, 30, 31, 32, 33, 34, 35] rfl (by decide +kernel)
set_option maxRecDepth 20000 in
theorem gX11_power_X11_digits : GoodIn wsX11_power (wsV RX11 134 RX11 yX11_digits wsX11_digits) := goodIn_app (goodIn_of _ (by decide +kernel)) ggX11_power_X11_digits
theorem dX11_power_0 : decode cX11_power 0 = .ok (.aload_n 0, 1) := by decide +kernel
theorem dX11_power_1 : decode cX11_power 1 = .ok (.iload_n 1, 1) := by decide +kernel
theorem dX11_power_2 : decode cX11_power 2 = .ok (.invokevirtual 80, 3) := by decide +kernel
theorem dX11_power_5 : decode cX11_power 5 = .ok (.iload_n 2, 1) := by decide +kernel
theorem dX11_power_6 : decode cX11_power 6 = .ok (.if_icmp .eq 17, 3) := by decide +kernel
theorem dX11_power_9 : decode cX11_power 9 = .ok (.aload_n 0, 1) := by decide +kernel
theorem dX11_power_10 : decode cX11_power 10 = .ok (.iload_n 1, 1) := by decide +kernel
theorem dX11_power_11 : decode cX11_power 11 = .ok (.invokevirtual 80, 3) := by decide +kernel
theorem dX11_power_14 : decode cX11_power 14 = .ok (.iload_n 2, 1) := by decide +kernel
theorem dX11_power_15 : decode cX11_power 15 = .ok (.bipush 32, 2) := by decide +kernel
theorem dX11_power_17 : decode cX11_power 17 = .ok (.isub, 1) := by decide +kernel
theorem dX11_power_18 : decode cX11_power 18 = .ok (.if_icmp .eq 5, 3) := by decide +kernel
theorem dX11_power_21 : decode cX11_power 21 = .ok (.iload_n 1, 1) := by decide +kernel
theorem dX11_power_22 : decode cX11_power 22 = .ok (.ireturn, 1) := by decide +kernel
theorem dX11_power_23 : decode cX11_power 23 = .ok (.aload_n 0, 1) := by decide +kernel
theorem dX11_power_24 : decode cX11_power 24 = .ok (.iload_n 1, 1) := by decide +kernel
theorem dX11_power_25 : decode cX11_power 25 = .ok (.iconst 1, 1) := by decide +kernel
theorem dX11_power_26 : decode cX11_power 26 = .ok (.iadd, 1) := by decide +kernel
theorem dX11_power_27 : decode cX11_power 27 = .ok (.invokevirtual 80, 3) := by decide +kernel
theorem dX11_power_30 : decode cX11_power 30 = .ok (.bipush 43, 2) := by decide +kernel
theorem dX11_power_32 : decode cX11_power 32 = .ok (.if_icmp .eq 15, 3) := by decide +kernel
theorem dX11_power_35 : decode cX11_power 35 = .ok (.aload_n 0, 1) := by decide +kernel
theorem dX11_power_36 : decode cX11_power 36 = .ok (.iload_n 1, 1) := by decide +kernel
theorem dX11_power_37 : decode cX11_power 37 = .ok (.iconst 1, 1) := by decide +kernel
theorem dX11_power_38 : decode cX11_power 38 = .ok (.iadd, 1) := by decide +kernel
theorem dX11_power_39 : decode cX11_power 39 = .ok (.invokevirtual 80, 3) := by decide +kernel
theorem dX11_power_42 : decode cX11_power 42 = .ok (.bipush 45, 2) := by decide +kernel
theorem dX11_power_44 : decode cX11_power 44 = .ok (.if_icmp .ne 9, 3) := by decide +kernel
theorem dX11_power_47 : decode cX11_power 47 = .ok (.iload_n 1, 1) := by decide +kernel
theorem dX11_power_48 : decode cX11_power 48 = .ok (.iconst 2, 1) := by decide +kernel
theorem dX11_power_49 : decode cX11_power 49 = .ok (.iadd, 1) := by decide +kernel
theorem dX11_power_50 : decode cX11_power 50 = .ok (.goto 6, 3) := by decide +kernel
theorem dX11_power_53 : decode cX11_power 53 = .ok (.iload_n 1, 1) := by decide +kernel
theorem dX11_power_54 : decode cX11_power 54 = .ok (.iconst 1, 1) := by decide +kernel
theorem dX11_power_55 : decode cX11_power 55 = .ok (.iadd, 1) := by decide +kernel
theorem dX11_power_56 : decode cX11_power 56 = .ok (.istore_n 3, 1) := by decide +kernel
theorem dX11_power_57 : decode cX11_power 57 = .ok (.aload_n 0, 1) := by decide +kernel
theorem dX11_power_58 : decode cX11_power 58 = .ok (.iload_n 3, 1) := by decide +kernel
theorem dX11_power_59 : decode cX11_power 59 = .ok (.bipush 10, 2) := by decide +kernel
theorem dX11_power_61 : decode cX11_power 61 = .ok (.invokevirtual 134, 3) := by decide +kernel
theorem dX11_power_64 : decode cX11_power 64 = .ok (.istore 4, 2) := by decide +kernel
theorem dX11_power_66 : decode cX11_power 66 = .ok (.iload 4, 2) := by decide +kernel
theorem dX11_power_68 : decode cX11_power 68 = .ok (.iload_n 3, 1) := by decide +kernel
theorem dX11_power_69 : decode cX11_power 69 = .ok (.if_icmp .le 8, 3) := by decide +kernel
theorem dX11_power_72 : decode cX11_power 72 = .ok (.iload 4, 2) := by decide +kernel
theorem dX11_power_74 : decode cX11_power 74 = .ok (.goto 4, 3) := by decide +kernel
theorem dX11_power_77 : decode cX11_power 77 = .ok (.iload_n 1, 1) := by decide +kernel
theorem dX11_power_78 : decode cX11_power 78 = .ok (.ireturn, 1) := by decide +kernel
set_option maxRecDepth 20000 in
theorem ggX11_number_X11_see : GoodIn wsX11_number wsX11_see := goodIn_r _ [11, 12, 3, 139, 140, 141, 142, 143, 144, 145, 146, 147, 148, 149, 150, 151, 152, 153, 154, 155, 156, 157, 158, 159] rfl (by decide +kernel)
set_option maxRecDepth 20000 in
theorem gX11_number_X11_see : GoodIn wsX11_number (wsV RX11 80 RX11 yX11_see wsX11_see) := goodIn_app (goodIn_of _ (by decide +kernel)) ggX11_number_X11_see
set_option maxRecDepth 20000 in
theorem ggX11_number_X11_digits : GoodIn wsX11_number wsX11_digits := goodIn_r _ [16, 7, 8, 9, 10, 11, 12, 3, 17, 18, 19, 139, 140, 141, 142, 143, 144, 145, 146, 147, 148, 149, 150, 151, 152, 153, 154, 155, 156, 157, 158, 159] rfl (by decide +kernel)
set_option maxRecDepth 20000 in
theorem gX11_number_X11_digits : GoodIn wsX11_number (wsV RX11 134 RX11 yX11_digits wsX11_digits) := goodIn_app (goodIn_of _ (by decide +kernel)) ggX11_number_X11_digits
set_option maxRecDepth 20000 in
theorem ggX11_number_X11_power : GoodIn wsX11_number wsX11_power := goodIn_r _ [23, 7, 8, 9, 10, 11, 12, 3, 13, 14, 15, 16, 17, 18, 19, 139, 140, 141, 142, 143, 144, 145, 146, 147, 148, 149, 150, 151, 152, 153, 154, 155, 156, 157, 158, 159] rfl (by decide +kernel)
set_option maxRecDepth 20000 in
theorem gX11_number_X11_power : GoodIn wsX11_number (wsV RX11 137 RX11 yX11_power wsX11_power) := goodIn_app (goodIn_of _ (by decide +kernel)) ggX11_number_X11_power
set_option maxRecDepth 20000 in
theorem ggX11_number_X11_digit : GoodIn wsX11_number wsX11_digit := goodIn_r _ [19] rfl (by decide +kernel)
set_option maxRecDepth 20000 in
theorem gX11_number_X11_digit : GoodIn wsX11_number (va_wsS RX11 73 yX11_digit wsX11_digit) := goodIn_app (goodIn_of _ (by decide +kernel)) ggX11_number_X11_digit
set_option maxRecDepth 20000 in
theorem ggX11_number_X10_read_ : GoodIn wsX11_number wsX10_read_ := goodIn_r _ [28, 29, 30, 31, 32, 33, 34, 35, 27, 36, 37, 38, 39, 40, 41, 42, 43, 44, 45, 46, 47, 48, 49, 50, 51, 52, 53, 54, 55, 56, 57, 58, 59, 60, 61, 62, 63, 64, 65, 66, 67, 68, 69, 70, 71, 72, 73, 74, 75, 76, 77, 78, 79, 80, 81, 82, 83, 84, 85, 86, 87, 88, 89, 90, 91, 92, 93, 94, 95, 96, 97, 98, 99, 100, 101, 102, 103, 104, 105, 106, 107, 108, 109, 110, 111, 112, 113, 114, 115, 116, 117, 118, 119, 120, 121, 122, 123, 124, 125, 126, 127, 128, 129, 130, 131, 132, 160, 161, 162, 163, 164, 165, 166, 167, 168, 169, 170, 171, 172, 173, 174, 175, 176, 177, 178, 179, 180, 181, 182, 183, 184, 185] rfl (by decide +kernel)
set_option maxRecDepth 20000 in
theorem gX11_number_X10_read_ : GoodIn wsX11_number (wsV RX11 140 RX10 yX10_read_ wsX10_read_) := goodIn_app (goodIn_of _ (by decide +kernel)) ggX11_number_X10_read_
set_option maxRecDepth 20000 in
theorem ggX11_number_X11_whole : GoodIn wsX11_number wsX11_whole := goodIn_r _ [136, 1, 3, 5, 137, 138, 6, 4, 7, 8, 9, 10, 11, 12, 17, 18, 19, 139, 140, 141, 142, 143, 144, 145, 146, 147, 148, 149, 150, 151, 152, 153, 154, 155, 156, 157, 158, 159] rfl (by decide +kernel)
set_option maxRecDepth 20000 in
theorem gX11_number_X11_whole : GoodIn wsX11_number (wsV RX11 144 RX11 yX11_whole wsX11_whole) := goodIn_app (goodIn_of _ (by decide +kernel)) ggX11_number_X11_whole
theorem dX11_number_0 : decode cX11_number 0 = .ok (.aload_n 0, 1) := by decide +kernel
theorem dX11_number_1 : decode cX11_number 1 = .ok (.getfield 77, 3) := by decide +kernel
theorem dX11_number_4 : decode cX11_number 4 = .ok (.istore_n 1, 1) := by decide +kernel
theorem dX11_number_5 : decode cX11_number 5 = .ok (.bipush 10, 2) := by decide +kernel
theorem dX11_number_7 : decode cX11_number 7 = .ok (.istore_n 2, 1) := by decide +kernel
theorem dX11_number_8 : decode cX11_number 8 = .ok (.iconst 0, 1) := by decide +kernel
theorem dX11_number_9 : decode cX11_number 9 = .ok (.istore 4, 2) := by decide +kernel
theorem dX11_number_11 : decode cX11_number 11 = .ok (.aload_n 0, 1) := by decide +kernel
theorem dX11_number_12 : decode cX11_number 12 = .ok (.iload_n 1, 1) := by decide +kernel
theorem dX11_number_13 : decode cX11_number 13 = .ok (.invokevirtual 80, 3) := by decide +kernel
theorem dX11_number_16 : decode cX11_number 16 = .ok (.bipush 48, 2) := by decide +kernel
theorem dX11_number_18 : decode cX11_number 18 = .ok (.if_icmp .ne 7, 3) := by decide +kernel
theorem dX11_number_21 : decode cX11_number 21 = .ok (.iconst 1, 1) := by decide +kernel
theorem dX11_number_22 : decode cX11_number 22 = .ok (.goto 4, 3) := by decide +kernel
theorem dX11_number_25 : decode cX11_number 25 = .ok (.iconst 0, 1) := by decide +kernel
theorem dX11_number_26 : decode cX11_number 26 = .ok (.istore 5, 2) := by decide +kernel
theorem dX11_number_28 : decode cX11_number 28 = .ok (.aload_n 0, 1) := by decide +kernel
theorem dX11_number_29 : decode cX11_number 29 = .ok (.iload_n 1, 1) := by decide +kernel
theorem dX11_number_30 : decode cX11_number 30 = .ok (.iconst 1, 1) := by decide +kernel
theorem dX11_number_31 : decode cX11_number 31 = .ok (.iadd, 1) := by decide +kernel
theorem dX11_number_32 : decode cX11_number 32 = .ok (.invokevirtual 80, 3) := by decide +kernel
theorem dX11_number_35 : decode cX11_number 35 = .ok (.bipush 32, 2) := by decide +kernel
theorem dX11_number_37 : decode cX11_number 37 = .ok (.ior, 1) := by decide +kernel
theorem dX11_number_38 : decode cX11_number 38 = .ok (.istore 6, 2) := by decide +kernel
theorem dX11_number_40 : decode cX11_number 40 = .ok (.iload 5, 2) := by decide +kernel
theorem dX11_number_42 : decode cX11_number 42 = .ok (.ifCond .eq 180, 3) := by decide +kernel
theorem dX11_number_45 : decode cX11_number 45 = .ok (.iload 6, 2) := by decide +kernel
theorem dX11_number_47 : decode cX11_number 47 = .ok (.bipush 120, 2) := by decide +kernel
theorem dX11_number_49 : decode cX11_number 49 = .ok (.if_icmp .ne 173, 3) := by decide +kernel
theorem dX11_number_52 : decode cX11_number 52 = .ok (.aload_n 0, 1) := by decide +kernel
theorem dX11_number_53 : decode cX11_number 53 = .ok (.iload_n 1, 1) := by decide +kernel
theorem dX11_number_54 : decode cX11_number 54 = .ok (.iconst 2, 1) := by decide +kernel
theorem dX11_number_55 : decode cX11_number 55 = .ok (.iadd, 1) := by decide +kernel
theorem dX11_number_56 : decode cX11_number 56 = .ok (.bipush 16, 2) := by decide +kernel
theorem dX11_number_58 : decode cX11_number 58 = .ok (.invokevirtual 134, 3) := by decide +kernel
theorem dX11_number_61 : decode cX11_number 61 = .ok (.istore 7, 2) := by decide +kernel
theorem dX11_number_63 : decode cX11_number 63 = .ok (.aload_n 0, 1) := by decide +kernel
theorem dX11_number_64 : decode cX11_number 64 = .ok (.iload 7, 2) := by decide +kernel
theorem dX11_number_66 : decode cX11_number 66 = .ok (.invokevirtual 80, 3) := by decide +kernel
theorem dX11_number_69 : decode cX11_number 69 = .ok (.bipush 46, 2) := by decide +kernel
theorem dX11_number_71 : decode cX11_number 71 = .ok (.if_icmp .ne 7, 3) := by decide +kernel
theorem dX11_number_74 : decode cX11_number 74 = .ok (.iconst 1, 1) := by decide +kernel
theorem dX11_number_75 : decode cX11_number 75 = .ok (.goto 4, 3) := by decide +kernel
theorem dX11_number_78 : decode cX11_number 78 = .ok (.iconst 0, 1) := by decide +kernel
theorem dX11_number_79 : decode cX11_number 79 = .ok (.istore 8, 2) := by decide +kernel
theorem dX11_number_81 : decode cX11_number 81 = .ok (.iload 8, 2) := by decide +kernel
theorem dX11_number_83 : decode cX11_number 83 = .ok (.ifCond .eq 16, 3) := by decide +kernel
theorem dX11_number_86 : decode cX11_number 86 = .ok (.aload_n 0, 1) := by decide +kernel
theorem dX11_number_87 : decode cX11_number 87 = .ok (.iload 7, 2) := by decide +kernel
theorem dX11_number_89 : decode cX11_number 89 = .ok (.iconst 1, 1) := by decide +kernel
theorem dX11_number_90 : decode cX11_number 90 = .ok (.iadd, 1) := by decide +kernel
theorem dX11_number_91 : decode cX11_number 91 = .ok (.bipush 16, 2) := by decide +kernel
theorem dX11_number_93 : decode cX11_number 93 = .ok (.invokevirtual 134, 3) := by decide +kernel
theorem dX11_number_96 : decode cX11_number 96 = .ok (.goto 5, 3) := by decide +kernel
theorem dX11_number_99 : decode cX11_number 99 = .ok (.iload 7, 2) := by decide +kernel
theorem dX11_number_101 : decode cX11_number 101 = .ok (.istore 9, 2) := by decide +kernel
theorem dX11_number_103 : decode cX11_number 103 = .ok (.iload 7, 2) := by decide +kernel
theorem dX11_number_105 : decode cX11_number 105 = .ok (.iload_n 1, 1) := by decide +kernel
theorem dX11_number_106 : decode cX11_number 106 = .ok (.iconst 2, 1) := by decide +kernel
theorem dX11_number_107 : decode cX11_number 107 = .ok (.iadd, 1) := by decide +kernel
theorem dX11_number_108 : decode cX11_number 108 = .ok (.if_icmp .gt 17, 3) := by decide +kernel
theorem dX11_number_111 : decode cX11_number 111 = .ok (.iload 9, 2) := by decide +kernel
theorem dX11_number_113 : decode cX11_number 113 = .ok (.iload 7, 2) := by decide +kernel
theorem dX11_number_115 : decode cX11_number 115 = .ok (.iconst 1, 1) := by decide +kernel
theorem dX11_number_116 : decode cX11_number 116 = .ok (.iadd, 1) := by decide +kernel
theorem dX11_number_117 : decode cX11_number 117 = .ok (.if_icmp .le 12, 3) := by decide +kernel
theorem dX11_number_120 : decode cX11_number 120 = .ok (.iload 8, 2) := by decide +kernel
theorem dX11_number_122 : decode cX11_number 122 = .ok (.ifCond .eq 7, 3) := by decide +kernel
theorem dX11_number_125 : decode cX11_number 125 = .ok (.iconst 1, 1) := by decide +kernel
theorem dX11_number_126 : decode cX11_number 126 = .ok (.goto 4, 3) := by decide +kernel
theorem dX11_number_129 : decode cX11_number 129 = .ok (.iconst 0, 1) := by decide +kernel
theorem dX11_number_130 : decode cX11_number 130 = .ok (.istore 10, 2) := by decide +kernel
theorem dX11_number_132 : decode cX11_number 132 = .ok (.iload 10, 2) := by decide +kernel
theorem dX11_number_134 : decode cX11_number 134 = .ok (.ifCond .eq 14, 3) := by decide +kernel
theorem dX11_number_137 : decode cX11_number 137 = .ok (.aload_n 0, 1) := by decide +kernel
theorem dX11_number_138 : decode cX11_number 138 = .ok (.iload 9, 2) := by decide +kernel
theorem dX11_number_140 : decode cX11_number 140 = .ok (.bipush 112, 2) := by decide +kernel
theorem dX11_number_142 : decode cX11_number 142 = .ok (.invokevirtual 137, 3) := by decide +kernel
theorem dX11_number_145 : decode cX11_number 145 = .ok (.goto 5, 3) := by decide +kernel
theorem dX11_number_148 : decode cX11_number 148 = .ok (.iload 9, 2) := by decide +kernel
theorem dX11_number_150 : decode cX11_number 150 = .ok (.istore 11, 2) := by decide +kernel
theorem dX11_number_152 : decode cX11_number 152 = .ok (.iload 10, 2) := by decide +kernel
theorem dX11_number_154 : decode cX11_number 154 = .ok (.ifCond .eq 14, 3) := by decide +kernel
theorem dX11_number_157 : decode cX11_number 157 = .ok (.iload 11, 2) := by decide +kernel
theorem dX11_number_159 : decode cX11_number 159 = .ok (.iload 9, 2) := by decide +kernel
theorem dX11_number_161 : decode cX11_number 161 = .ok (.if_icmp .le 7, 3) := by decide +kernel
theorem dX11_number_164 : decode cX11_number 164 = .ok (.iconst 1, 1) := by decide +kernel
theorem dX11_number_165 : decode cX11_number 165 = .ok (.goto 4, 3) := by decide +kernel
theorem dX11_number_168 : decode cX11_number 168 = .ok (.iconst 0, 1) := by decide +kernel
theorem dX11_number_169 : decode cX11_number 169 = .ok (.istore 4, 2) := by decide +kernel
theorem dX11_number_171 : decode cX11_number 171 = .ok (.iload 4, 2) := by decide +kernel
theorem dX11_number_173 : decode cX11_number 173 = .ok (.ifCond .eq 8, 3) := by decide +kernel
theorem dX11_number_176 : decode cX11_number 176 = .ok (.iload 11, 2) := by decide +kernel
theorem dX11_number_178 : decode cX11_number 178 = .ok (.goto 19, 3) := by decide +kernel
theorem dX11_number_181 : decode cX11_number 181 = .ok (.iload 7, 2) := by decide +kernel
theorem dX11_number_183 : decode cX11_number 183 = .ok (.iload_n 1, 1) := by decide +kernel
theorem dX11_number_184 : decode cX11_number 184 = .ok (.iconst 2, 1) := by decide +kernel
theorem dX11_number_185 : decode cX11_number 185 = .ok (.iadd, 1) := by decide +kernel
theorem dX11_number_186 : decode cX11_number 186 = .ok (.if_icmp .le 8, 3) := by decide +kernel
theorem dX11_number_189 : decode cX11_number 189 = .ok (.iload 7, 2) := by decide +kernel
theorem dX11_number_191 : decode cX11_number 191 = .ok (.goto 6, 3) := by decide +kernel
theorem dX11_number_194 : decode cX11_number 194 = .ok (.iload_n 1, 1) := by decide +kernel
theorem dX11_number_195 : decode cX11_number 195 = .ok (.iconst 1, 1) := by decide +kernel
theorem dX11_number_196 : decode cX11_number 196 = .ok (.iadd, 1) := by decide +kernel
theorem dX11_number_197 : decode cX11_number 197 = .ok (.istore_n 3, 1) := by decide +kernel
theorem dX11_number_198 : decode cX11_number 198 = .ok (.iload 4, 2) := by decide +kernel
theorem dX11_number_200 : decode cX11_number 200 = .ok (.ifCond .ne 16, 3) := by decide +kernel
theorem dX11_number_203 : decode cX11_number 203 = .ok (.iload 7, 2) := by decide +kernel
theorem dX11_number_205 : decode cX11_number 205 = .ok (.iload_n 1, 1) := by decide +kernel
theorem dX11_number_206 : decode cX11_number 206 = .ok (.iconst 2, 1) := by decide +kernel
theorem dX11_number_207 : decode cX11_number 207 = .ok (.iadd, 1) := by decide +kernel
theorem dX11_number_208 : decode cX11_number 208 = .ok (.if_icmp .le 8, 3) := by decide +kernel
theorem dX11_number_211 : decode cX11_number 211 = .ok (.bipush 16, 2) := by decide +kernel
theorem dX11_number_213 : decode cX11_number 213 = .ok (.goto 5, 3) := by decide +kernel
theorem dX11_number_216 : decode cX11_number 216 = .ok (.bipush 10, 2) := by decide +kernel
theorem dX11_number_218 : decode cX11_number 218 = .ok (.istore_n 2, 1) := by decide +kernel
theorem dX11_number_219 : decode cX11_number 219 = .ok (.goto 197, 3) := by decide +kernel
theorem dX11_number_222 : decode cX11_number 222 = .ok (.iload 5, 2) := by decide +kernel
theorem dX11_number_224 : decode cX11_number 224 = .ok (.ifCond .eq 38, 3) := by decide +kernel
theorem dX11_number_227 : decode cX11_number 227 = .ok (.iload 6, 2) := by decide +kernel
theorem dX11_number_229 : decode cX11_number 229 = .ok (.bipush 98, 2) := by decide +kernel
theorem dX11_number_231 : decode cX11_number 231 = .ok (.if_icmp .ne 31, 3) := by decide +kernel
theorem dX11_number_234 : decode cX11_number 234 = .ok (.aload_n 0, 1) := by decide +kernel
theorem dX11_number_235 : decode cX11_number 235 = .ok (.iload_n 1, 1) := by decide +kernel
theorem dX11_number_236 : decode cX11_number 236 = .ok (.iconst 2, 1) := by decide +kernel
theorem dX11_number_237 : decode cX11_number 237 = .ok (.iadd, 1) := by decide +kernel
theorem dX11_number_238 : decode cX11_number 238 = .ok (.iconst 2, 1) := by decide +kernel
theorem dX11_number_239 : decode cX11_number 239 = .ok (.invokevirtual 134, 3) := by decide +kernel
theorem dX11_number_242 : decode cX11_number 242 = .ok (.iload_n 1, 1) := by decide +kernel
theorem dX11_number_243 : decode cX11_number 243 = .ok (.iconst 2, 1) := by decide +kernel
theorem dX11_number_244 : decode cX11_number 244 = .ok (.iadd, 1) := by decide +kernel
theorem dX11_number_245 : decode cX11_number 245 = .ok (.if_icmp .le 17, 3) := by decide +kernel
theorem dX11_number_248 : decode cX11_number 248 = .ok (.iconst 2, 1) := by decide +kernel
theorem dX11_number_249 : decode cX11_number 249 = .ok (.istore_n 2, 1) := by decide +kernel
theorem dX11_number_250 : decode cX11_number 250 = .ok (.aload_n 0, 1) := by decide +kernel
theorem dX11_number_251 : decode cX11_number 251 = .ok (.iload_n 1, 1) := by decide +kernel
theorem dX11_number_252 : decode cX11_number 252 = .ok (.iconst 2, 1) := by decide +kernel
theorem dX11_number_253 : decode cX11_number 253 = .ok (.iadd, 1) := by decide +kernel
theorem dX11_number_254 : decode cX11_number 254 = .ok (.iconst 2, 1) := by decide +kernel
theorem dX11_number_255 : decode cX11_number 255 = .ok (.invokevirtual 134, 3) := by decide +kernel
theorem dX11_number_258 : decode cX11_number 258 = .ok (.istore_n 3, 1) := by decide +kernel
theorem dX11_number_259 : decode cX11_number 259 = .ok (.goto 157, 3) := by decide +kernel
theorem dX11_number_262 : decode cX11_number 262 = .ok (.aload_n 0, 1) := by decide +kernel
theorem dX11_number_263 : decode cX11_number 263 = .ok (.iload_n 1, 1) := by decide +kernel
theorem dX11_number_264 : decode cX11_number 264 = .ok (.bipush 10, 2) := by decide +kernel
theorem dX11_number_266 : decode cX11_number 266 = .ok (.invokevirtual 134, 3) := by decide +kernel
theorem dX11_number_269 : decode cX11_number 269 = .ok (.istore 7, 2) := by decide +kernel
theorem dX11_number_271 : decode cX11_number 271 = .ok (.iload 7, 2) := by decide +kernel
theorem dX11_number_273 : decode cX11_number 273 = .ok (.istore 8, 2) := by decide +kernel
theorem dX11_number_275 : decode cX11_number 275 = .ok (.aload_n 0, 1) := by decide +kernel
theorem dX11_number_276 : decode cX11_number 276 = .ok (.iload 7, 2) := by decide +kernel
theorem dX11_number_278 : decode cX11_number 278 = .ok (.invokevirtual 80, 3) := by decide +kernel
theorem dX11_number_281 : decode cX11_number 281 = .ok (.bipush 46, 2) := by decide +kernel
theorem dX11_number_283 : decode cX11_number 283 = .ok (.if_icmp .ne 29, 3) := by decide +kernel
theorem dX11_number_286 : decode cX11_number 286 = .ok (.iload 7, 2) := by decide +kernel
theorem dX11_number_288 : decode cX11_number 288 = .ok (.iload_n 1, 1) := by decide +kernel
theorem dX11_number_289 : decode cX11_number 289 = .ok (.if_icmp .gt 19, 3) := by decide +kernel
theorem dX11_number_292 : decode cX11_number 292 = .ok (.aload_n 0, 1) := by decide +kernel
theorem dX11_number_293 : decode cX11_number 293 = .ok (.iload 7, 2) := by decide +kernel
theorem dX11_number_295 : decode cX11_number 295 = .ok (.iconst 1, 1) := by decide +kernel
theorem dX11_number_296 : decode cX11_number 296 = .ok (.iadd, 1) := by decide +kernel
theorem dX11_number_297 : decode cX11_number 297 = .ok (.invokevirtual 80, 3) := by decide +kernel
theorem dX11_number_300 : decode cX11_number 300 = .ok (.bipush 10, 2) := by decide +kernel
theorem dX11_number_302 : decode cX11_number 302 = .ok (.invokestatic 73, 3) := by decide +kernel
theorem dX11_number_305 : decode cX11_number 305 = .ok (.ifCond .lt 7, 3) := by decide +kernel
theorem dX11_number_308 : decode cX11_number 308 = .ok (.iconst 1, 1) := by decide +kernel
theorem dX11_number_309 : decode cX11_number 309 = .ok (.goto 4, 3) := by decide +kernel
theorem dX11_number_312 : decode cX11_number 312 = .ok (.iconst 0, 1) := by decide +kernel
theorem dX11_number_313 : decode cX11_number 313 = .ok (.istore 9, 2) := by decide +kernel
theorem dX11_number_315 : decode cX11_number 315 = .ok (.iload 9, 2) := by decide +kernel
theorem dX11_number_317 : decode cX11_number 317 = .ok (.ifCond .eq 15, 3) := by decide +kernel
theorem dX11_number_320 : decode cX11_number 320 = .ok (.aload_n 0, 1) := by decide +kernel
theorem dX11_number_321 : decode cX11_number 321 = .ok (.iload 7, 2) := by decide +kernel
theorem dX11_number_323 : decode cX11_number 323 = .ok (.iconst 1, 1) := by decide +kernel
theorem dX11_number_324 : decode cX11_number 324 = .ok (.iadd, 1) := by decide +kernel
theorem dX11_number_325 : decode cX11_number 325 = .ok (.bipush 10, 2) := by decide +kernel
theorem dX11_number_327 : decode cX11_number 327 = .ok (.invokevirtual 134, 3) := by decide +kernel
theorem dX11_number_330 : decode cX11_number 330 = .ok (.istore 8, 2) := by decide +kernel
theorem dX11_number_332 : decode cX11_number 332 = .ok (.aload_n 0, 1) := by decide +kernel
theorem dX11_number_333 : decode cX11_number 333 = .ok (.iload 8, 2) := by decide +kernel
theorem dX11_number_335 : decode cX11_number 335 = .ok (.bipush 101, 2) := by decide +kernel
theorem dX11_number_337 : decode cX11_number 337 = .ok (.invokevirtual 137, 3) := by decide +kernel
theorem dX11_number_340 : decode cX11_number 340 = .ok (.istore_n 3, 1) := by decide +kernel
theorem dX11_number_341 : decode cX11_number 341 = .ok (.aload_n 0, 1) := by decide +kernel
theorem dX11_number_342 : decode cX11_number 342 = .ok (.iload_n 3, 1) := by decide +kernel
theorem dX11_number_343 : decode cX11_number 343 = .ok (.invokevirtual 80, 3) := by decide +kernel
theorem dX11_number_346 : decode cX11_number 346 = .ok (.bipush 32, 2) := by decide +kernel
theorem dX11_number_348 : decode cX11_number 348 = .ok (.ior, 1) := by decide +kernel
theorem dX11_number_349 : decode cX11_number 349 = .ok (.istore 10, 2) := by decide +kernel
theorem dX11_number_351 : decode cX11_number 351 = .ok (.iload 9, 2) := by decide +kernel
theorem dX11_number_353 : decode cX11_number 353 = .ok (.ifCond .ne 23, 3) := by decide +kernel
theorem dX11_number_356 : decode cX11_number 356 = .ok (.iload_n 3, 1) := by decide +kernel
theorem dX11_number_357 : decode cX11_number 357 = .ok (.iload 8, 2) := by decide +kernel
theorem dX11_number_359 : decode cX11_number 359 = .ok (.if_icmp .gt 17, 3) := by decide +kernel
theorem dX11_number_362 : decode cX11_number 362 = .ok (.iload 10, 2) := by decide +kernel
theorem dX11_number_364 : decode cX11_number 364 = .ok (.bipush 102, 2) := by decide +kernel
theorem dX11_number_366 : decode cX11_number 366 = .ok (.if_icmp .eq 10, 3) := by decide +kernel
theorem dX11_number_369 : decode cX11_number 369 = .ok (.iload 10, 2) := by decide +kernel
theorem dX11_number_371 : decode cX11_number 371 = .ok (.bipush 100, 2) := by decide +kernel
theorem dX11_number_373 : decode cX11_number 373 = .ok (.if_icmp .ne 7, 3) := by decide +kernel
theorem dX11_number_376 : decode cX11_number 376 = .ok (.iconst 1, 1) := by decide +kernel
theorem dX11_number_377 : decode cX11_number 377 = .ok (.goto 4, 3) := by decide +kernel
theorem dX11_number_380 : decode cX11_number 380 = .ok (.iconst 0, 1) := by decide +kernel
theorem dX11_number_381 : decode cX11_number 381 = .ok (.istore 4, 2) := by decide +kernel
theorem dX11_number_383 : decode cX11_number 383 = .ok (.iload 4, 2) := by decide +kernel
theorem dX11_number_385 : decode cX11_number 385 = .ok (.ifCond .ne 31, 3) := by decide +kernel
theorem dX11_number_388 : decode cX11_number 388 = .ok (.iload 5, 2) := by decide +kernel
theorem dX11_number_390 : decode cX11_number 390 = .ok (.ifCond .eq 26, 3) := by decide +kernel
theorem dX11_number_393 : decode cX11_number 393 = .ok (.aload_n 0, 1) := by decide +kernel
theorem dX11_number_394 : decode cX11_number 394 = .ok (.iload_n 1, 1) := by decide +kernel
theorem dX11_number_395 : decode cX11_number 395 = .ok (.bipush 8, 2) := by decide +kernel
theorem dX11_number_397 : decode cX11_number 397 = .ok (.invokevirtual 134, 3) := by decide +kernel
theorem dX11_number_400 : decode cX11_number 400 = .ok (.istore_n 3, 1) := by decide +kernel
theorem dX11_number_401 : decode cX11_number 401 = .ok (.iload_n 3, 1) := by decide +kernel
theorem dX11_number_402 : decode cX11_number 402 = .ok (.iload_n 1, 1) := by decide +kernel
theorem dX11_number_403 : decode cX11_number 403 = .ok (.iconst 1, 1) := by decide +kernel
theorem dX11_number_404 : decode cX11_number 404 = .ok (.iadd, 1) := by decide +kernel
theorem dX11_number_405 : decode cX11_number 405 = .ok (.if_icmp .le 8, 3) := by decide +kernel
theorem dX11_number_408 : decode cX11_number 408 = .ok (.bipush 8, 2) := by decide +kernel
theorem dX11_number_410 : decode cX11_number 410 = .ok (.goto 5, 3) := by decide +kernel
theorem dX11_number_413 : decode cX11_number 413 = .ok (.bipush 10, 2) := by decide +kernel
theorem dX11_number_415 : decode cX11_number 415 = .ok (.istore_n 2, 1) := by decide +kernel
theorem dX11_number_416 : decode cX11_number 416 = .ok (.aload_n 0, 1) := by decide +kernel
theorem dX11_number_417 : decode cX11_number 417 = .ok (.iload_n 3, 1) := by decide +kernel
theorem dX11_number_418 : decode cX11_number 418 = .ok (.putfield 77, 3) := by decide +kernel
theorem dX11_number_421 : decode cX11_number 421 = .ok (.iload 4, 2) := by decide +kernel
theorem dX11_number_423 : decode cX11_number 423 = .ok (.ifCond .eq 108, 3) := by decide +kernel
theorem dX11_number_426 : decode cX11_number 426 = .ok (.aload_n 0, 1) := by decide +kernel
theorem dX11_number_427 : decode cX11_number 427 = .ok (.aload_n 0, 1) := by decide +kernel
theorem dX11_number_428 : decode cX11_number 428 = .ok (.getfield 77, 3) := by decide +kernel
theorem dX11_number_431 : decode cX11_number 431 = .ok (.invokevirtual 80, 3) := by decide +kernel
theorem dX11_number_434 : decode cX11_number 434 = .ok (.bipush 32, 2) := by decide +kernel
theorem dX11_number_436 : decode cX11_number 436 = .ok (.ior, 1) := by decide +kernel
theorem dX11_number_437 : decode cX11_number 437 = .ok (.istore 7, 2) := by decide +kernel
theorem dX11_number_439 : decode cX11_number 439 = .ok (.aload_n 0, 1) := by decide +kernel
theorem dX11_number_440 : decode cX11_number 440 = .ok (.aload_n 0, 1) := by decide +kernel
theorem dX11_number_441 : decode cX11_number 441 = .ok (.getfield 10, 3) := by decide +kernel
theorem dX11_number_444 : decode cX11_number 444 = .ok (.aload_n 0, 1) := by decide +kernel
theorem dX11_number_445 : decode cX11_number 445 = .ok (.getfield 22, 3) := by decide +kernel
theorem dX11_number_448 : decode cX11_number 448 = .ok (.iload_n 1, 1) := by decide +kernel
theorem dX11_number_449 : decode cX11_number 449 = .ok (.iload_n 3, 1) := by decide +kernel
theorem dX11_number_450 : decode cX11_number 450 = .ok (.iload 7, 2) := by decide +kernel
theorem dX11_number_452 : decode cX11_number 452 = .ok (.bipush 102, 2) := by decide +kernel
theorem dX11_number_454 : decode cX11_number 454 = .ok (.if_icmp .ne 7, 3) := by decide +kernel
theorem dX11_number_457 : decode cX11_number 457 = .ok (.iconst 1, 1) := by decide +kernel
theorem dX11_number_458 : decode cX11_number 458 = .ok (.goto 4, 3) := by decide +kernel
theorem dX11_number_461 : decode cX11_number 461 = .ok (.iconst 0, 1) := by decide +kernel
theorem dX11_number_462 : decode cX11_number 462 = .ok (.invokevirtual 140, 3) := by decide +kernel
theorem dX11_number_465 : decode cX11_number 465 = .ok (.putfield 119, 3) := by decide +kernel
theorem dX11_number_468 : decode cX11_number 468 = .ok (.aload_n 0, 1) := by decide +kernel
theorem dX11_number_469 : decode cX11_number 469 = .ok (.aload_n 0, 1) := by decide +kernel
theorem dX11_number_470 : decode cX11_number 470 = .ok (.getfield 119, 3) := by decide +kernel
theorem dX11_number_473 : decode cX11_number 473 = .ok (.lconst 0, 1) := by decide +kernel
theorem dX11_number_474 : decode cX11_number 474 = .ok (.lcmp, 1) := by decide +kernel
theorem dX11_number_475 : decode cX11_number 475 = .ok (.ifCond .lt 7, 3) := by decide +kernel
theorem dX11_number_478 : decode cX11_number 478 = .ok (.iconst 1, 1) := by decide +kernel
theorem dX11_number_479 : decode cX11_number 479 = .ok (.goto 4, 3) := by decide +kernel
theorem dX11_number_482 : decode cX11_number 482 = .ok (.iconst 0, 1) := by decide +kernel
theorem dX11_number_483 : decode cX11_number 483 = .ok (.putfield 109, 3) := by decide +kernel
theorem dX11_number_486 : decode cX11_number 486 = .ok (.aload_n 0, 1) := by decide +kernel
theorem dX11_number_487 : decode cX11_number 487 = .ok (.iload 7, 2) := by decide +kernel
theorem dX11_number_489 : decode cX11_number 489 = .ok (.bipush 102, 2) := by decide +kernel
theorem dX11_number_491 : decode cX11_number 491 = .ok (.if_icmp .ne 8, 3) := by decide +kernel
theorem dX11_number_494 : decode cX11_number 494 = .ok (.bipush 63, 2) := by decide +kernel
theorem dX11_number_496 : decode cX11_number 496 = .ok (.goto 5, 3) := by decide +kernel
theorem dX11_number_499 : decode cX11_number 499 = .ok (.bipush 64, 2) := by decide +kernel
theorem dX11_number_501 : decode cX11_number 501 = .ok (.putfield 113, 3) := by decide +kernel
theorem dX11_number_504 : decode cX11_number 504 = .ok (.iload 7, 2) := by decide +kernel
theorem dX11_number_506 : decode cX11_number 506 = .ok (.bipush 102, 2) := by decide +kernel
theorem dX11_number_508 : decode cX11_number 508 = .ok (.if_icmp .eq 10, 3) := by decide +kernel
theorem dX11_number_511 : decode cX11_number 511 = .ok (.iload 7, 2) := by decide +kernel
theorem dX11_number_513 : decode cX11_number 513 = .ok (.bipush 100, 2) := by decide +kernel
theorem dX11_number_515 : decode cX11_number 515 = .ok (.if_icmp .ne 13, 3) := by decide +kernel
theorem dX11_number_518 : decode cX11_number 518 = .ok (.aload_n 0, 1) := by decide +kernel
theorem dX11_number_519 : decode cX11_number 519 = .ok (.dup, 1) := by decide +kernel
theorem dX11_number_520 : decode cX11_number 520 = .ok (.getfield 77, 3) := by decide +kernel
theorem dX11_number_523 : decode cX11_number 523 = .ok (.iconst 1, 1) := by decide +kernel
theorem dX11_number_524 : decode cX11_number 524 = .ok (.iadd, 1) := by decide +kernel
theorem dX11_number_525 : decode cX11_number 525 = .ok (.putfield 77, 3) := by decide +kernel
theorem dX11_number_528 : decode cX11_number 528 = .ok (.goto 10, 3) := by decide +kernel
theorem dX11_number_531 : decode cX11_number 531 = .ok (.aload_n 0, 1) := by decide +kernel
theorem dX11_number_532 : decode cX11_number 532 = .ok (.iload_n 1, 1) := by decide +kernel
theorem dX11_number_533 : decode cX11_number 533 = .ok (.iload_n 3, 1) := by decide +kernel
theorem dX11_number_534 : decode cX11_number 534 = .ok (.iload_n 2, 1) := by decide +kernel
theorem dX11_number_535 : decode cX11_number 535 = .ok (.invokevirtual 144, 3) := by decide +kernel
theorem dX11_number_538 : decode cX11_number 538 = .ok (.aload_n 0, 1) := by decide +kernel
theorem dX11_number_539 : decode cX11_number 539 = .ok (.aload_n 0, 1) := by decide +kernel
theorem dX11_number_540 : decode cX11_number 540 = .ok (.getfield 109, 3) := by decide +kernel
theorem dX11_number_543 : decode cX11_number 543 = .ok (.ifCond .eq 19, 3) := by decide +kernel
theorem dX11_number_546 : decode cX11_number 546 = .ok (.aload_n 0, 1) := by decide +kernel
theorem dX11_number_547 : decode cX11_number 547 = .ok (.getfield 77, 3) := by decide +kernel
theorem dX11_number_550 : decode cX11_number 550 = .ok (.iload_n 1, 1) := by decide +kernel
theorem dX11_number_551 : decode cX11_number 551 = .ok (.isub, 1) := by decide +kernel
theorem dX11_number_552 : decode cX11_number 552 = .ok (.sipush 1000, 3) := by decide +kernel
theorem dX11_number_555 : decode cX11_number 555 = .ok (.if_icmp .gt 7, 3) := by decide +kernel
theorem dX11_number_558 : decode cX11_number 558 = .ok (.iconst 1, 1) := by decide +kernel
theorem dX11_number_559 : decode cX11_number 559 = .ok (.goto 4, 3) := by decide +kernel
theorem dX11_number_562 : decode cX11_number 562 = .ok (.iconst 0, 1) := by decide +kernel
theorem dX11_number_563 : decode cX11_number 563 = .ok (.putfield 109, 3) := by decide +kernel
theorem dX11_number_566 : decode cX11_number 566 = .ok (.return_, 1) := by decide +kernel
set_option maxRecDepth 20000 in
theorem ggX11_whole_X11_see : GoodIn wsX11_whole wsX11_see := goodIn_r _ [12, 13, 2, 17, 18, 19, 20, 21, 22, 23, 24, 25, 26, 27, 28, 29, 30, 31, 32, 33, 34, 35, 36, 37] rfl (by decide +kernel)
set_option maxRecDepth 20000 in
theorem gX11_whole_X11_see : GoodIn wsX11_whole (wsV RX11 80 RX11 yX11_see wsX11_see) := goodIn_app (goodIn_of _ (by decide +kernel)) ggX11_whole_X11_see
set_option maxRecDepth 20000 in
theorem ggX11_whole_X11_digit : GoodIn wsX11_whole wsX11_digit := goodIn_r _ [16] rfl (by decide +kernel)
set_option maxRecDepth 20000 in
theorem gX11_whole_X11_digit : GoodIn wsX11_whole (va_wsS RX11 73 yX11_digit wsX11_digit) := goodIn_app (goodIn_of _ (by decide +kernel)) ggX11_whole_X11_digit
theorem dX11_whole_0 : decode cX11_whole 0 = .ok (.aload_n 0, 1) := by decide +kernel
theorem dX11_whole_1 : decode cX11_whole 1 = .ok (.iload_n 2, 1) := by decide +kernel
theorem dX11_whole_2 : decode cX11_whole 2 = .ok (.invokevirtual 80, 3) := by decide +kernel
theorem dX11_whole_5 : decode cX11_whole 5 = .ok (.bipush 108, 2) := by decide +kernel
theorem dX11_whole_7 : decode cX11_whole 7 = .ok (.if_icmp .eq 13, 3) := by decide +kernel
theorem dX11_whole_10 : decode cX11_whole 10 = .ok (.aload_n 0, 1) := by decide +kernel
theorem dX11_whole_11 : decode cX11_whole 11 = .ok (.iload_n 2, 1) := by decide +kernel
theorem dX11_whole_12 : decode cX11_whole 12 = .ok (.invokevirtual 80, 3) := by decide +kernel
theorem dX11_whole_15 : decode cX11_whole 15 = .ok (.bipush 76, 2) := by decide +kernel
theorem dX11_whole_17 : decode cX11_whole 17 = .ok (.if_icmp .ne 7, 3) := by decide +kernel
theorem dX11_whole_20 : decode cX11_whole 20 = .ok (.iconst 1, 1) := by decide +kernel
theorem dX11_whole_21 : decode cX11_whole 21 = .ok (.goto 4, 3) := by decide +kernel
theorem dX11_whole_24 : decode cX11_whole 24 = .ok (.iconst 0, 1) := by decide +kernel
theorem dX11_whole_25 : decode cX11_whole 25 = .ok (.istore 4, 2) := by decide +kernel
theorem dX11_whole_27 : decode cX11_whole 27 = .ok (.iload 4, 2) := by decide +kernel
theorem dX11_whole_29 : decode cX11_whole 29 = .ok (.ifCond .eq 13, 3) := by decide +kernel
theorem dX11_whole_32 : decode cX11_whole 32 = .ok (.aload_n 0, 1) := by decide +kernel
theorem dX11_whole_33 : decode cX11_whole 33 = .ok (.dup, 1) := by decide +kernel
theorem dX11_whole_34 : decode cX11_whole 34 = .ok (.getfield 77, 3) := by decide +kernel
theorem dX11_whole_37 : decode cX11_whole 37 = .ok (.iconst 1, 1) := by decide +kernel
theorem dX11_whole_38 : decode cX11_whole 38 = .ok (.iadd, 1) := by decide +kernel
theorem dX11_whole_39 : decode cX11_whole 39 = .ok (.putfield 77, 3) := by decide +kernel
theorem dX11_whole_42 : decode cX11_whole 42 = .ok (.lconst 0, 1) := by decide +kernel
theorem dX11_whole_43 : decode cX11_whole 43 = .ok (.lstore 5, 2) := by decide +kernel
theorem dX11_whole_45 : decode cX11_whole 45 = .ok (.lconst 0, 1) := by decide +kernel
theorem dX11_whole_46 : decode cX11_whole 46 = .ok (.lstore 7, 2) := by decide +kernel
theorem dX11_whole_48 : decode cX11_whole 48 = .ok (.iload_n 3, 1) := by decide +kernel
theorem dX11_whole_49 : decode cX11_whole 49 = .ok (.bipush 16, 2) := by decide +kernel
theorem dX11_whole_51 : decode cX11_whole 51 = .ok (.if_icmp .eq 8, 3) := by decide +kernel
theorem dX11_whole_54 : decode cX11_whole 54 = .ok (.iload_n 3, 1) := by decide +kernel
theorem dX11_whole_55 : decode cX11_whole 55 = .ok (.iconst 2, 1) := by decide +kernel
theorem dX11_whole_56 : decode cX11_whole 56 = .ok (.if_icmp .ne 9, 3) := by decide +kernel
theorem dX11_whole_59 : decode cX11_whole 59 = .ok (.iload_n 1, 1) := by decide +kernel
theorem dX11_whole_60 : decode cX11_whole 60 = .ok (.iconst 2, 1) := by decide +kernel
theorem dX11_whole_61 : decode cX11_whole 61 = .ok (.iadd, 1) := by decide +kernel
theorem dX11_whole_62 : decode cX11_whole 62 = .ok (.goto 4, 3) := by decide +kernel
theorem dX11_whole_65 : decode cX11_whole 65 = .ok (.iload_n 1, 1) := by decide +kernel
theorem dX11_whole_66 : decode cX11_whole 66 = .ok (.istore 9, 2) := by decide +kernel
theorem dX11_whole_68 : decode cX11_whole 68 = .ok (.iload 9, 2) := by decide +kernel
theorem dX11_whole_70 : decode cX11_whole 70 = .ok (.iload_n 2, 1) := by decide +kernel
theorem dX11_whole_71 : decode cX11_whole 71 = .ok (.if_icmp .ge 90, 3) := by decide +kernel
theorem dX11_whole_74 : decode cX11_whole 74 = .ok (.aload_n 0, 1) := by decide +kernel
theorem dX11_whole_75 : decode cX11_whole 75 = .ok (.getfield 22, 3) := by decide +kernel
theorem dX11_whole_78 : decode cX11_whole 78 = .ok (.iload 9, 2) := by decide +kernel
theorem dX11_whole_80 : decode cX11_whole 80 = .ok (.iaload, 1) := by decide +kernel
theorem dX11_whole_81 : decode cX11_whole 81 = .ok (.bipush 95, 2) := by decide +kernel
theorem dX11_whole_83 : decode cX11_whole 83 = .ok (.if_icmp .eq 72, 3) := by decide +kernel
theorem dX11_whole_86 : decode cX11_whole 86 = .ok (.aload_n 0, 1) := by decide +kernel
theorem dX11_whole_87 : decode cX11_whole 87 = .ok (.getfield 109, 3) := by decide +kernel
theorem dX11_whole_90 : decode cX11_whole 90 = .ok (.ifCond .ne 6, 3) := by decide +kernel
theorem dX11_whole_93 : decode cX11_whole 93 = .ok (.goto 62, 3) := by decide +kernel
theorem dX11_whole_96 : decode cX11_whole 96 = .ok (.lload 7, 2) := by decide +kernel
theorem dX11_whole_98 : decode cX11_whole 98 = .ok (.iload_n 3, 1) := by decide +kernel
theorem dX11_whole_99 : decode cX11_whole 99 = .ok (.i2l, 1) := by decide +kernel
theorem dX11_whole_100 : decode cX11_whole 100 = .ok (.lmul, 1) := by decide +kernel
theorem dX11_whole_101 : decode cX11_whole 101 = .ok (.aload_n 0, 1) := by decide +kernel
theorem dX11_whole_102 : decode cX11_whole 102 = .ok (.getfield 22, 3) := by decide +kernel
theorem dX11_whole_105 : decode cX11_whole 105 = .ok (.iload 9, 2) := by decide +kernel
theorem dX11_whole_107 : decode cX11_whole 107 = .ok (.iaload, 1) := by decide +kernel
theorem dX11_whole_108 : decode cX11_whole 108 = .ok (.iload_n 3, 1) := by decide +kernel
theorem dX11_whole_109 : decode cX11_whole 109 = .ok (.invokestatic 73, 3) := by decide +kernel
theorem dX11_whole_112 : decode cX11_whole 112 = .ok (.i2l, 1) := by decide +kernel
theorem dX11_whole_113 : decode cX11_whole 113 = .ok (.ladd, 1) := by decide +kernel
theorem dX11_whole_114 : decode cX11_whole 114 = .ok (.lstore 7, 2) := by decide +kernel
theorem dX11_whole_116 : decode cX11_whole 116 = .ok (.lload 5, 2) := by decide +kernel
theorem dX11_whole_118 : decode cX11_whole 118 = .ok (.iload_n 3, 1) := by decide +kernel
theorem dX11_whole_119 : decode cX11_whole 119 = .ok (.i2l, 1) := by decide +kernel
theorem dX11_whole_120 : decode cX11_whole 120 = .ok (.lmul, 1) := by decide +kernel
theorem dX11_whole_121 : decode cX11_whole 121 = .ok (.lload 7, 2) := by decide +kernel
theorem dX11_whole_123 : decode cX11_whole 123 = .ok (.bipush 32, 2) := by decide +kernel
theorem dX11_whole_125 : decode cX11_whole 125 = .ok (.lshr, 1) := by decide +kernel
theorem dX11_whole_126 : decode cX11_whole 126 = .ok (.ladd, 1) := by decide +kernel
theorem dX11_whole_127 : decode cX11_whole 127 = .ok (.lstore 5, 2) := by decide +kernel
theorem dX11_whole_129 : decode cX11_whole 129 = .ok (.lload 7, 2) := by decide +kernel
theorem dX11_whole_131 : decode cX11_whole 131 = .ok (.ldc2_w 148, 3) := by decide +kernel
theorem dX11_whole_134 : decode cX11_whole 134 = .ok (.land, 1) := by decide +kernel
theorem dX11_whole_135 : decode cX11_whole 135 = .ok (.lstore 7, 2) := by decide +kernel
theorem dX11_whole_137 : decode cX11_whole 137 = .ok (.aload_n 0, 1) := by decide +kernel
theorem dX11_whole_138 : decode cX11_whole 138 = .ok (.lload 5, 2) := by decide +kernel
theorem dX11_whole_140 : decode cX11_whole 140 = .ok (.ldc2_w 148, 3) := by decide +kernel
theorem dX11_whole_143 : decode cX11_whole 143 = .ok (.lcmp, 1) := by decide +kernel
theorem dX11_whole_144 : decode cX11_whole 144 = .ok (.ifCond .gt 7, 3) := by decide +kernel
theorem dX11_whole_147 : decode cX11_whole 147 = .ok (.iconst 1, 1) := by decide +kernel
theorem dX11_whole_148 : decode cX11_whole 148 = .ok (.goto 4, 3) := by decide +kernel
theorem dX11_whole_151 : decode cX11_whole 151 = .ok (.iconst 0, 1) := by decide +kernel
theorem dX11_whole_152 : decode cX11_whole 152 = .ok (.putfield 109, 3) := by decide +kernel
theorem dX11_whole_155 : decode cX11_whole 155 = .ok (.iinc 9 1, 3) := by decide +kernel
theorem dX11_whole_158 : decode cX11_whole 158 = .ok (.goto (-90), 3) := by decide +kernel
theorem dX11_whole_161 : decode cX11_whole 161 = .ok (.lload 5, 2) := by decide +kernel
theorem dX11_whole_163 : decode cX11_whole 163 = .ok (.lconst 0, 1) := by decide +kernel
theorem dX11_whole_164 : decode cX11_whole 164 = .ok (.lcmp, 1) := by decide +kernel
theorem dX11_whole_165 : decode cX11_whole 165 = .ok (.ifCond .ne 7, 3) := by decide +kernel
theorem dX11_whole_168 : decode cX11_whole 168 = .ok (.iconst 1, 1) := by decide +kernel
theorem dX11_whole_169 : decode cX11_whole 169 = .ok (.goto 4, 3) := by decide +kernel
theorem dX11_whole_172 : decode cX11_whole 172 = .ok (.iconst 0, 1) := by decide +kernel
theorem dX11_whole_173 : decode cX11_whole 173 = .ok (.istore 9, 2) := by decide +kernel
theorem dX11_whole_175 : decode cX11_whole 175 = .ok (.iload_n 3, 1) := by decide +kernel
theorem dX11_whole_176 : decode cX11_whole 176 = .ok (.bipush 10, 2) := by decide +kernel
theorem dX11_whole_178 : decode cX11_whole 178 = .ok (.if_icmp .ne 69, 3) := by decide +kernel
theorem dX11_whole_181 : decode cX11_whole 181 = .ok (.aload_n 0, 1) := by decide +kernel
theorem dX11_whole_182 : decode cX11_whole 182 = .ok (.aload_n 0, 1) := by decide +kernel
theorem dX11_whole_183 : decode cX11_whole 183 = .ok (.getfield 109, 3) := by decide +kernel
theorem dX11_whole_186 : decode cX11_whole 186 = .ok (.ifCond .eq 54, 3) := by decide +kernel
theorem dX11_whole_189 : decode cX11_whole 189 = .ok (.iload 4, 2) := by decide +kernel
theorem dX11_whole_191 : decode cX11_whole 191 = .ok (.ifCond .eq 31, 3) := by decide +kernel
theorem dX11_whole_194 : decode cX11_whole 194 = .ok (.lload 5, 2) := by decide +kernel
theorem dX11_whole_196 : decode cX11_whole 196 = .ok (.ldc2_w 150, 3) := by decide +kernel
theorem dX11_whole_199 : decode cX11_whole 199 = .ok (.lcmp, 1) := by decide +kernel
theorem dX11_whole_200 : decode cX11_whole 200 = .ok (.ifCond .lt 36, 3) := by decide +kernel
theorem dX11_whole_203 : decode cX11_whole 203 = .ok (.lload 5, 2) := by decide +kernel
theorem dX11_whole_205 : decode cX11_whole 205 = .ok (.ldc2_w 150, 3) := by decide +kernel
theorem dX11_whole_208 : decode cX11_whole 208 = .ok (.lcmp, 1) := by decide +kernel
theorem dX11_whole_209 : decode cX11_whole 209 = .ok (.ifCond .ne 31, 3) := by decide +kernel
theorem dX11_whole_212 : decode cX11_whole 212 = .ok (.lload 7, 2) := by decide +kernel
theorem dX11_whole_214 : decode cX11_whole 214 = .ok (.lconst 0, 1) := by decide +kernel
theorem dX11_whole_215 : decode cX11_whole 215 = .ok (.lcmp, 1) := by decide +kernel
theorem dX11_whole_216 : decode cX11_whole 216 = .ok (.ifCond .ne 24, 3) := by decide +kernel
theorem dX11_whole_219 : decode cX11_whole 219 = .ok (.goto 17, 3) := by decide +kernel
theorem dX11_whole_222 : decode cX11_whole 222 = .ok (.iload 9, 2) := by decide +kernel
theorem dX11_whole_224 : decode cX11_whole 224 = .ok (.ifCond .eq 16, 3) := by decide +kernel
theorem dX11_whole_227 : decode cX11_whole 227 = .ok (.lload 7, 2) := by decide +kernel
theorem dX11_whole_229 : decode cX11_whole 229 = .ok (.ldc2_w 150, 3) := by decide +kernel
theorem dX11_whole_232 : decode cX11_whole 232 = .ok (.lcmp, 1) := by decide +kernel
theorem dX11_whole_233 : decode cX11_whole 233 = .ok (.ifCond .gt 7, 3) := by decide +kernel
theorem dX11_whole_236 : decode cX11_whole 236 = .ok (.iconst 1, 1) := by decide +kernel
theorem dX11_whole_237 : decode cX11_whole 237 = .ok (.goto 4, 3) := by decide +kernel
theorem dX11_whole_240 : decode cX11_whole 240 = .ok (.iconst 0, 1) := by decide +kernel
theorem dX11_whole_241 : decode cX11_whole 241 = .ok (.putfield 109, 3) := by decide +kernel
theorem dX11_whole_244 : decode cX11_whole 244 = .ok (.goto 29, 3) := by decide +kernel
theorem dX11_whole_247 : decode cX11_whole 247 = .ok (.aload_n 0, 1) := by decide +kernel
theorem dX11_whole_248 : decode cX11_whole 248 = .ok (.aload_n 0, 1) := by decide +kernel
theorem dX11_whole_249 : decode cX11_whole 249 = .ok (.getfield 109, 3) := by decide +kernel
theorem dX11_whole_252 : decode cX11_whole 252 = .ok (.ifCond .eq 17, 3) := by decide +kernel
theorem dX11_whole_255 : decode cX11_whole 255 = .ok (.iload 4, 2) := by decide +kernel
theorem dX11_whole_257 : decode cX11_whole 257 = .ok (.ifCond .ne 8, 3) := by decide +kernel
theorem dX11_whole_260 : decode cX11_whole 260 = .ok (.iload 9, 2) := by decide +kernel
theorem dX11_whole_262 : decode cX11_whole 262 = .ok (.ifCond .eq 7, 3) := by decide +kernel
theorem dX11_whole_265 : decode cX11_whole 265 = .ok (.iconst 1, 1) := by decide +kernel
theorem dX11_whole_266 : decode cX11_whole 266 = .ok (.goto 4, 3) := by decide +kernel
theorem dX11_whole_269 : decode cX11_whole 269 = .ok (.iconst 0, 1) := by decide +kernel
theorem dX11_whole_270 : decode cX11_whole 270 = .ok (.putfield 109, 3) := by decide +kernel
theorem dX11_whole_273 : decode cX11_whole 273 = .ok (.aload_n 0, 1) := by decide +kernel
theorem dX11_whole_274 : decode cX11_whole 274 = .ok (.iload 4, 2) := by decide +kernel
theorem dX11_whole_276 : decode cX11_whole 276 = .ok (.ifCond .eq 8, 3) := by decide +kernel
theorem dX11_whole_279 : decode cX11_whole 279 = .ok (.bipush 62, 2) := by decide +kernel
theorem dX11_whole_281 : decode cX11_whole 281 = .ok (.goto 5, 3) := by decide +kernel
theorem dX11_whole_284 : decode cX11_whole 284 = .ok (.bipush 61, 2) := by decide +kernel
theorem dX11_whole_286 : decode cX11_whole 286 = .ok (.putfield 113, 3) := by decide +kernel
theorem dX11_whole_289 : decode cX11_whole 289 = .ok (.aload_n 0, 1) := by decide +kernel
theorem dX11_whole_290 : decode cX11_whole 290 = .ok (.iload 4, 2) := by decide +kernel
theorem dX11_whole_292 : decode cX11_whole 292 = .ok (.ifCond .eq 14, 3) := by decide +kernel
theorem dX11_whole_295 : decode cX11_whole 295 = .ok (.lload 5, 2) := by decide +kernel
theorem dX11_whole_297 : decode cX11_whole 297 = .ok (.bipush 32, 2) := by decide +kernel
theorem dX11_whole_299 : decode cX11_whole 299 = .ok (.lshl, 1) := by decide +kernel
theorem dX11_whole_300 : decode cX11_whole 300 = .ok (.lload 7, 2) := by decide +kernel
theorem dX11_whole_302 : decode cX11_whole 302 = .ok (.lor, 1) := by decide +kernel
theorem dX11_whole_303 : decode cX11_whole 303 = .ok (.goto 7, 3) := by decide +kernel
theorem dX11_whole_306 : decode cX11_whole 306 = .ok (.lload 7, 2) := by decide +kernel
theorem dX11_whole_308 : decode cX11_whole 308 = .ok (.l2i, 1) := by decide +kernel
theorem dX11_whole_309 : decode cX11_whole 309 = .ok (.i2l, 1) := by decide +kernel
theorem dX11_whole_310 : decode cX11_whole 310 = .ok (.putfield 119, 3) := by decide +kernel
theorem dX11_whole_313 : decode cX11_whole 313 = .ok (.return_, 1) := by decide +kernel
set_option maxRecDepth 20000 in
theorem ggX11_token_X11_see : GoodIn wsX11_token wsX11_see := goodIn_r _ [8, 9, 10, 286, 287, 288, 289, 290, 291, 292, 293, 294, 295, 296, 297, 298, 299, 300, 301, 302, 303, 304, 305, 306] rfl (by decide +kernel)
set_option maxRecDepth 20000 in
theorem gX11_token_X11_see : GoodIn wsX11_token (wsV RX11 80 RX11 yX11_see wsX11_see) := goodIn_app (goodIn_of _ (by decide +kernel)) ggX11_token_X11_see
set_option maxRecDepth 20000 in
theorem ggX11_token_X11_isLetter : GoodIn wsX11_token wsX11_isLetter := goodIn_r _ [13] rfl (by decide +kernel)
set_option maxRecDepth 20000 in
theorem gX11_token_X11_isLetter : GoodIn wsX11_token (va_wsS RX11 99 yX11_isLetter wsX11_isLetter) := goodIn_app (goodIn_of _ (by decide +kernel)) ggX11_token_X11_isLetter
set_option maxRecDepth 20000 in
theorem ggX11_token_X11_name : GoodIn wsX11_token wsX11_name := goodIn_r _ [17, 1, 2, 18, 10, 3, 4, 5, 6, 7, 8, 9, 11, 12, 13, 19, 20, 21, 22, 23, 24, 25, 26, 27, 28, 29, 30, 31, 32, 33, 34, 35, 36, 37, 38, 39, 40, 41, 42, 43, 44, 45, 46, 47, 48, 49, 50, 51, 52, 53, 54, 55, 56, 57, 58, 59, 60, 61, 62, 63, 64, 65, 66, 67, 68, 69, 70, 71, 72, 73, 74, 75, 76, 77, 78, 79, 80, 81, 82, 83, 84, 85, 86, 87, 88, 89, 90, 91, 92, 93, 94, 95, 96, 97, 98, 99, 100, 101, 102, 103, 104, 105, 106, 107, 108, 109, 110, 111, 112, 113, 114, 115, 116, 117, 118, 119, 120, 121, 122, 123, 124, 125, 126, 127, 128, 129, 130, 131, 132, 133, 134, 135, 136, 137, 138, 139, 140, 141, 286, 287, 288, 289, 290, 291, 292, 293, 294, 295, 296, 297, 298, 299, 300, 301, 302, 303, 304, 305, 306] rfl (by decide +kernel)
set_option maxRecDepth 20000 in
theorem gX11_token_X11_name : GoodIn wsX11_token (wsV RX11 152 RX11 yX11_name wsX11_name) := goodIn_app (goodIn_of _ (by decide +kernel)) ggX11_token_X11_name
set_option maxRecDepth 20000 in
theorem ggX11_token_X11_digit : GoodIn wsX11_token wsX11_digit := goodIn_r _ [21] rfl (by decide +kernel)
set_option maxRecDepth 20000 in
theorem gX11_token_X11_digit : GoodIn wsX11_token (va_wsS RX11 73 yX11_digit wsX11_digit) := goodIn_app (goodIn_of _ (by decide +kernel)) ggX11_token_X11_digit
set_option maxRecDepth 20000 in
theorem ggX11_token_X11_number : GoodIn wsX11_token wsX11_number := goodIn_r _ [145, 1, 146, 10, 3, 2, 18, 4, 5, 6, 7, 8, 9, 147, 148, 149, 150, 19, 20, 21, 151, 152, 153, 154, 155, 156, 157, 158, 159, 160, 161, 162, 163, 164, 165, 166, 167, 168, 169, 170, 171, 172, 173, 174, 175, 176, 177, 178, 179, 180, 181, 182, 183, 184, 185, 186, 187, 188, 189, 190, 191, 192, 193, 194, 195, 196, 197, 198, 199, 200, 201, 202, 203, 204, 205, 206, 207, 208, 209, 210, 211, 212, 213, 214, 215, 216, 217, 218, 219, 220, 221, 222, 223, 224, 225, 226, 227, 228, 229, 230, 231, 232, 233, 234, 235, 236, 237, 238, 239, 240, 241, 242, 243, 244, 245, 246, 247, 248, 249, 250, 251, 252, 253, 254, 255, 256, 257, 258, 259, 260, 261, 262, 263, 264, 265, 266, 267, 268, 269, 286, 287, 288, 289, 290, 291, 292, 293, 294, 295, 296, 297, 298, 299, 300, 301, 302, 303, 304, 305, 306, 307, 308, 309, 310, 311, 312, 313, 314, 315, 316, 317, 318, 319, 320, 321, 322, 323, 324, 325, 326, 327, 328, 329, 330, 331, 332] rfl (by decide +kernel)
set_option maxRecDepth 20000 in
theorem gX11_token_X11_number : GoodIn wsX11_token (wsV RX11 155 RX11 yX11_number wsX11_number) := goodIn_app (goodIn_of _ (by decide +kernel)) ggX11_token_X11_number
set_option maxRecDepth 20000 in
theorem ggX11_token_X11_quoted : GoodIn wsX11_token wsX11_quoted := goodIn_r _ [273, 1, 3, 2, 18, 274, 275, 276, 7, 277, 4, 5, 6, 8, 9, 10, 19, 20, 21, 286, 287, 288, 289, 290, 291, 292, 293, 294, 295, 296, 297, 298, 299, 300, 301, 302, 303, 304, 305, 306] rfl (by decide +kernel)
set_option maxRecDepth 20000 in
theorem gX11_token_X11_quoted : GoodIn wsX11_token (wsV RX11 158 RX11 yX11_quoted wsX11_quoted) := goodIn_app (goodIn_of _ (by decide +kernel)) ggX11_token_X11_quoted
set_option maxRecDepth 20000 in
theorem ggX11_token_X11_row : GoodIn wsX11_token wsX11_row := goodIn_r _ [281, 1, 18, 2, 3, 4, 5, 6, 7, 8, 9, 10, 274, 275, 276, 277, 19, 20, 21, 135, 136, 137, 138, 139, 140, 141, 286, 287, 288, 289, 290, 291, 292, 293, 294, 295, 296, 297, 298, 299, 300, 301, 302, 303, 304, 305, 306] rfl (by decide +kernel)
set_option maxRecDepth 20000 in
theorem gX11_token_X11_row : GoodIn wsX11_token (wsV RX11 161 RX11 yX11_row wsX11_row) := goodIn_app (goodIn_of _ (by decide +kernel)) ggX11_token_X11_row
set_option maxRecDepth 20000 in
theorem ggX11_token_X11_sign : GoodIn wsX11_token wsX11_sign := goodIn_r _ [285, 1, 9, 2, 18, 22, 23, 24, 7, 25, 10, 26, 27, 28, 29, 30, 31, 32, 33, 34, 35, 36, 37, 38, 39, 40, 41, 42, 43, 44, 45, 46, 47, 48, 49, 50, 51, 52, 53, 54, 55, 56, 57, 58, 59, 60, 61, 62, 63, 64, 65, 66, 67, 68, 69, 70, 71, 72, 73, 74, 75, 76, 77, 78, 79, 80, 81, 82, 83, 84, 85, 86, 87, 88, 89, 90, 91, 92, 93, 94, 95, 96, 97, 98, 99, 100, 101, 102, 103, 104, 105, 106, 107, 108, 109, 110, 111, 112, 113, 114, 115, 116, 117, 118, 119, 120, 121, 122, 123, 124, 125, 126, 127, 128, 129, 130, 131, 132, 133, 134, 286, 287, 288, 289, 290, 291, 292, 293, 294, 295, 296, 297, 298, 299, 300, 301, 302, 303, 304, 305, 306] rfl (by decide +kernel)
set_option maxRecDepth 20000 in
theorem gX11_token_X11_sign : GoodIn wsX11_token (wsV RX11 164 RX11 yX11_sign wsX11_sign) := goodIn_app (goodIn_of _ (by decide +kernel)) ggX11_token_X11_sign
theorem dX11_token_0 : decode cX11_token 0 = .ok (.aload_n 0, 1) := by decide +kernel
theorem dX11_token_1 : decode cX11_token 1 = .ok (.aload_n 0, 1) := by decide +kernel
theorem dX11_token_2 : decode cX11_token 2 = .ok (.getfield 77, 3) := by decide +kernel
theorem dX11_token_5 : decode cX11_token 5 = .ok (.invokevirtual 80, 3) := by decide +kernel
theorem dX11_token_8 : decode cX11_token 8 = .ok (.istore_n 1, 1) := by decide +kernel
theorem dX11_token_9 : decode cX11_token 9 = .ok (.aload_n 0, 1) := by decide +kernel
theorem dX11_token_10 : decode cX11_token 10 = .ok (.iconst 1, 1) := by decide +kernel
theorem dX11_token_11 : decode cX11_token 11 = .ok (.putfield 109, 3) := by decide +kernel
theorem dX11_token_14 : decode cX11_token 14 = .ok (.aload_n 0, 1) := by decide +kernel
theorem dX11_token_15 : decode cX11_token 15 = .ok (.lconst 0, 1) := by decide +kernel
theorem dX11_token_16 : decode cX11_token 16 = .ok (.putfield 119, 3) := by decide +kernel
theorem dX11_token_19 : decode cX11_token 19 = .ok (.iload_n 1, 1) := by decide +kernel
theorem dX11_token_20 : decode cX11_token 20 = .ok (.invokestatic 99, 3) := by decide +kernel
theorem dX11_token_23 : decode cX11_token 23 = .ok (.ifCond .eq 10, 3) := by decide +kernel
theorem dX11_token_26 : decode cX11_token 26 = .ok (.aload_n 0, 1) := by decide +kernel
theorem dX11_token_27 : decode cX11_token 27 = .ok (.invokevirtual 152, 3) := by decide +kernel
theorem dX11_token_30 : decode cX11_token 30 = .ok (.goto 102, 3) := by decide +kernel
theorem dX11_token_33 : decode cX11_token 33 = .ok (.iload_n 1, 1) := by decide +kernel
theorem dX11_token_34 : decode cX11_token 34 = .ok (.bipush 10, 2) := by decide +kernel
theorem dX11_token_36 : decode cX11_token 36 = .ok (.invokestatic 73, 3) := by decide +kernel
theorem dX11_token_39 : decode cX11_token 39 = .ok (.ifCond .ge 27, 3) := by decide +kernel
theorem dX11_token_42 : decode cX11_token 42 = .ok (.iload_n 1, 1) := by decide +kernel
theorem dX11_token_43 : decode cX11_token 43 = .ok (.bipush 46, 2) := by decide +kernel
theorem dX11_token_45 : decode cX11_token 45 = .ok (.if_icmp .ne 28, 3) := by decide +kernel
theorem dX11_token_48 : decode cX11_token 48 = .ok (.aload_n 0, 1) := by decide +kernel
theorem dX11_token_49 : decode cX11_token 49 = .ok (.aload_n 0, 1) := by decide +kernel
theorem dX11_token_50 : decode cX11_token 50 = .ok (.getfield 77, 3) := by decide +kernel
theorem dX11_token_53 : decode cX11_token 53 = .ok (.iconst 1, 1) := by decide +kernel
theorem dX11_token_54 : decode cX11_token 54 = .ok (.iadd, 1) := by decide +kernel
theorem dX11_token_55 : decode cX11_token 55 = .ok (.invokevirtual 80, 3) := by decide +kernel
theorem dX11_token_58 : decode cX11_token 58 = .ok (.bipush 10, 2) := by decide +kernel
theorem dX11_token_60 : decode cX11_token 60 = .ok (.invokestatic 73, 3) := by decide +kernel
theorem dX11_token_63 : decode cX11_token 63 = .ok (.ifCond .lt 10, 3) := by decide +kernel
theorem dX11_token_66 : decode cX11_token 66 = .ok (.aload_n 0, 1) := by decide +kernel
theorem dX11_token_67 : decode cX11_token 67 = .ok (.invokevirtual 155, 3) := by decide +kernel
theorem dX11_token_70 : decode cX11_token 70 = .ok (.goto 62, 3) := by decide +kernel
theorem dX11_token_73 : decode cX11_token 73 = .ok (.iload_n 1, 1) := by decide +kernel
theorem dX11_token_74 : decode cX11_token 74 = .ok (.bipush 39, 2) := by decide +kernel
theorem dX11_token_76 : decode cX11_token 76 = .ok (.if_icmp .ne 10, 3) := by decide +kernel
theorem dX11_token_79 : decode cX11_token 79 = .ok (.aload_n 0, 1) := by decide +kernel
theorem dX11_token_80 : decode cX11_token 80 = .ok (.invokevirtual 158, 3) := by decide +kernel
theorem dX11_token_83 : decode cX11_token 83 = .ok (.goto 49, 3) := by decide +kernel
theorem dX11_token_86 : decode cX11_token 86 = .ok (.iload_n 1, 1) := by decide +kernel
theorem dX11_token_87 : decode cX11_token 87 = .ok (.bipush 34, 2) := by decide +kernel
theorem dX11_token_89 : decode cX11_token 89 = .ok (.if_icmp .ne 10, 3) := by decide +kernel
theorem dX11_token_92 : decode cX11_token 92 = .ok (.aload_n 0, 1) := by decide +kernel
theorem dX11_token_93 : decode cX11_token 93 = .ok (.invokevirtual 161, 3) := by decide +kernel
theorem dX11_token_96 : decode cX11_token 96 = .ok (.goto 36, 3) := by decide +kernel
theorem dX11_token_99 : decode cX11_token 99 = .ok (.iload_n 1, 1) := by decide +kernel
theorem dX11_token_100 : decode cX11_token 100 = .ok (.bipush 47, 2) := by decide +kernel
theorem dX11_token_102 : decode cX11_token 102 = .ok (.if_icmp .ne 26, 3) := by decide +kernel
theorem dX11_token_105 : decode cX11_token 105 = .ok (.aload_n 0, 1) := by decide +kernel
theorem dX11_token_106 : decode cX11_token 106 = .ok (.aload_n 0, 1) := by decide +kernel
theorem dX11_token_107 : decode cX11_token 107 = .ok (.getfield 77, 3) := by decide +kernel
theorem dX11_token_110 : decode cX11_token 110 = .ok (.iconst 1, 1) := by decide +kernel
theorem dX11_token_111 : decode cX11_token 111 = .ok (.iadd, 1) := by decide +kernel
theorem dX11_token_112 : decode cX11_token 112 = .ok (.invokevirtual 80, 3) := by decide +kernel
theorem dX11_token_115 : decode cX11_token 115 = .ok (.bipush 42, 2) := by decide +kernel
theorem dX11_token_117 : decode cX11_token 117 = .ok (.if_icmp .ne 11, 3) := by decide +kernel
theorem dX11_token_120 : decode cX11_token 120 = .ok (.aload_n 0, 1) := by decide +kernel
theorem dX11_token_121 : decode cX11_token 121 = .ok (.iconst 0, 1) := by decide +kernel
theorem dX11_token_122 : decode cX11_token 122 = .ok (.putfield 109, 3) := by decide +kernel
theorem dX11_token_125 : decode cX11_token 125 = .ok (.goto 7, 3) := by decide +kernel
theorem dX11_token_128 : decode cX11_token 128 = .ok (.aload_n 0, 1) := by decide +kernel
theorem dX11_token_129 : decode cX11_token 129 = .ok (.invokevirtual 164, 3) := by decide +kernel
theorem dX11_token_132 : decode cX11_token 132 = .ok (.return_, 1) := by decide +kernel
set_option maxRecDepth 20000 in
theorem ggX11_read_X11_more : GoodIn wsX11_read wsX11_more := goodIn_r _ [20, 1, 21, 22, 23, 24, 25, 19, 26, 308, 309, 310, 311, 312, 313, 314, 315, 316, 317, 318, 319, 320, 321, 322, 323, 324, 325, 326, 327, 328] rfl (by decide +kernel)
set_option maxRecDepth 20000 in
theorem gX11_read_X11_more : GoodIn wsX11_read (wsV RX11 170 RX11 yX11_more wsX11_more) := goodIn_app (goodIn_of _ (by decide +kernel)) ggX11_read_X11_more
set_option maxRecDepth 20000 in
theorem ggX11_read_X11_token : GoodIn wsX11_read wsX11_token := goodIn_r _ [30, 1, 6, 11, 23, 24, 25, 19, 26, 21, 22, 31, 32, 33, 34, 35, 36, 37, 8, 38, 39, 40, 41, 42, 43, 44, 45, 46, 47, 48, 49, 50, 51, 52, 53, 54, 55, 56, 57, 58, 59, 60, 61, 62, 63, 64, 65, 66, 67, 68, 69, 70, 71, 72, 73, 74, 75, 76, 77, 78, 79, 80, 81, 82, 83, 84, 85, 86, 87, 88, 89, 90, 91, 92, 93, 94, 95, 96, 97, 98, 99, 100, 101, 102, 103, 104, 105, 106, 107, 108, 109, 110, 111, 112, 113, 114, 115, 116, 117, 118, 119, 120, 121, 122, 123, 124, 125, 126, 127, 128, 129, 130, 131, 132, 133, 134, 135, 136, 137, 138, 139, 140, 141, 142, 143, 144, 145, 146, 147, 148, 149, 150, 151, 152, 153, 154, 155, 156, 157, 3, 158, 2, 159, 160, 161, 162, 163, 164, 165, 166, 167, 168, 169, 170, 171, 172, 173, 174, 175, 176, 177, 178, 179, 180, 181, 182, 183, 184, 185, 186, 187, 188, 189, 190, 191, 192, 193, 194, 195, 196, 197, 198, 199, 200, 201, 202, 203, 204, 205, 206, 207, 208, 209, 210, 211, 212, 213, 214, 215, 216, 217, 218, 219, 220, 221, 222, 223, 224, 225, 226, 227, 228, 229, 230, 231, 232, 233, 234, 235, 236, 237, 238, 239, 240, 241, 242, 243, 244, 245, 246, 247, 248, 249, 250, 251, 252, 253, 254, 255, 256, 257, 258, 259, 260, 261, 262, 263, 264, 265, 266, 267, 268, 269, 270, 271, 272, 273, 274, 275, 276, 277, 278, 279, 280, 281, 282, 283, 284, 285, 286, 287, 288, 289, 290, 291, 292, 293, 294, 295, 296, 297, 298, 299, 300, 301, 302, 308, 309, 310, 311, 312, 313, 314, 315, 316, 317, 318, 319, 320, 321, 322, 323, 324, 325, 326, 327, 328, 329, 330, 331, 332, 333, 334, 335, 336, 337, 338, 339, 340, 341, 342, 343, 344, 345, 346, 347, 348, 349, 350, 351, 352, 353, 354] rfl (by decide +kernel)
set_option maxRecDepth 20000 in
theorem gX11_read_X11_token : GoodIn wsX11_read (wsV RX11 174 RX11 yX11_token wsX11_token) := goodIn_app (goodIn_of _ (by decide +kernel)) ggX11_read_X11_token
set_option maxRecDepth 20000 in
theorem ggX11_read_X11_translate : GoodIn wsX11_read wsX11_translate := goodIn_r _ [306, 21, 14, 307, 22, 38, 39, 19, 40, 308, 309, 310, 311, 312, 313, 314, 315, 316, 317, 318, 319, 320, 321, 322, 323, 324, 325, 326, 327, 328] rfl (by decide +kernel)
set_option maxRecDepth 20000 in
theorem gX11_read_X11_translate : GoodIn wsX11_read (wsV RX11 67 RX11 yX11_translate wsX11_translate) := goodIn_app (goodIn_of _ (by decide +kernel)) ggX11_read_X11_translate
theorem dX11_read_0 : decode cX11_read 0 = .ok (.aload_n 0, 1) := by decide +kernel
theorem dX11_read_1 : decode cX11_read 1 = .ok (.iconst 0, 1) := by decide +kernel
theorem dX11_read_2 : decode cX11_read 2 = .ok (.putfield 77, 3) := by decide +kernel
theorem dX11_read_5 : decode cX11_read 5 = .ok (.aload_n 0, 1) := by decide +kernel
theorem dX11_read_6 : decode cX11_read 6 = .ok (.iconst 0, 1) := by decide +kernel
theorem dX11_read_7 : decode cX11_read 7 = .ok (.putfield 126, 3) := by decide +kernel
theorem dX11_read_10 : decode cX11_read 10 = .ok (.aload_n 0, 1) := by decide +kernel
theorem dX11_read_11 : decode cX11_read 11 = .ok (.iconst 0, 1) := by decide +kernel
theorem dX11_read_12 : decode cX11_read 12 = .ok (.putfield 123, 3) := by decide +kernel
theorem dX11_read_15 : decode cX11_read 15 = .ok (.aload_n 0, 1) := by decide +kernel
theorem dX11_read_16 : decode cX11_read 16 = .ok (.iconst 0, 1) := by decide +kernel
theorem dX11_read_17 : decode cX11_read 17 = .ok (.putfield 167, 3) := by decide +kernel
theorem dX11_read_20 : decode cX11_read 20 = .ok (.aload_n 0, 1) := by decide +kernel
theorem dX11_read_21 : decode cX11_read 21 = .ok (.iconst (-1), 1) := by decide +kernel
theorem dX11_read_22 : decode cX11_read 22 = .ok (.putfield 46, 3) := by decide +kernel
theorem dX11_read_25 : decode cX11_read 25 = .ok (.iconst (-1), 1) := by decide +kernel
theorem dX11_read_26 : decode cX11_read 26 = .ok (.istore_n 1, 1) := by decide +kernel
theorem dX11_read_27 : decode cX11_read 27 = .ok (.aload_n 0, 1) := by decide +kernel
theorem dX11_read_28 : decode cX11_read 28 = .ok (.getfield 46, 3) := by decide +kernel
theorem dX11_read_31 : decode cX11_read 31 = .ok (.ifCond .ge 155, 3) := by decide +kernel
theorem dX11_read_34 : decode cX11_read 34 = .ok (.aload_n 0, 1) := by decide +kernel
theorem dX11_read_35 : decode cX11_read 35 = .ok (.invokevirtual 170, 3) := by decide +kernel
theorem dX11_read_38 : decode cX11_read 38 = .ok (.ifCond .eq 148, 3) := by decide +kernel
theorem dX11_read_41 : decode cX11_read 41 = .ok (.aload_n 0, 1) := by decide +kernel
theorem dX11_read_42 : decode cX11_read 42 = .ok (.getfield 77, 3) := by decide +kernel
theorem dX11_read_45 : decode cX11_read 45 = .ok (.istore_n 2, 1) := by decide +kernel
theorem dX11_read_46 : decode cX11_read 46 = .ok (.aload_n 0, 1) := by decide +kernel
theorem dX11_read_47 : decode cX11_read 47 = .ok (.getfield 126, 3) := by decide +kernel
theorem dX11_read_50 : decode cX11_read 50 = .ok (.istore_n 3, 1) := by decide +kernel
theorem dX11_read_51 : decode cX11_read 51 = .ok (.aload_n 0, 1) := by decide +kernel
theorem dX11_read_52 : decode cX11_read 52 = .ok (.invokevirtual 174, 3) := by decide +kernel
theorem dX11_read_55 : decode cX11_read 55 = .ok (.aload_n 0, 1) := by decide +kernel
theorem dX11_read_56 : decode cX11_read 56 = .ok (.getfield 109, 3) := by decide +kernel
theorem dX11_read_59 : decode cX11_read 59 = .ok (.ifCond .ne 19, 3) := by decide +kernel
theorem dX11_read_62 : decode cX11_read 62 = .ok (.aload_n 0, 1) := by decide +kernel
theorem dX11_read_63 : decode cX11_read 63 = .ok (.aload_n 0, 1) := by decide +kernel
theorem dX11_read_64 : decode cX11_read 64 = .ok (.getfield 167, 3) := by decide +kernel
theorem dX11_read_67 : decode cX11_read 67 = .ok (.putfield 46, 3) := by decide +kernel
theorem dX11_read_70 : decode cX11_read 70 = .ok (.aload_n 0, 1) := by decide +kernel
theorem dX11_read_71 : decode cX11_read 71 = .ok (.iload_n 3, 1) := by decide +kernel
theorem dX11_read_72 : decode cX11_read 72 = .ok (.putfield 126, 3) := by decide +kernel
theorem dX11_read_75 : decode cX11_read 75 = .ok (.goto (-48), 3) := by decide +kernel
theorem dX11_read_78 : decode cX11_read 78 = .ok (.aload_n 0, 1) := by decide +kernel
theorem dX11_read_79 : decode cX11_read 79 = .ok (.getfield 123, 3) := by decide +kernel
theorem dX11_read_82 : decode cX11_read 82 = .ok (.sipush 8192, 3) := by decide +kernel
theorem dX11_read_85 : decode cX11_read 85 = .ok (.if_icmp .ge 83, 3) := by decide +kernel
theorem dX11_read_88 : decode cX11_read 88 = .ok (.aload_n 0, 1) := by decide +kernel
theorem dX11_read_89 : decode cX11_read 89 = .ok (.getfield 26, 3) := by decide +kernel
theorem dX11_read_92 : decode cX11_read 92 = .ok (.aload_n 0, 1) := by decide +kernel
theorem dX11_read_93 : decode cX11_read 93 = .ok (.getfield 123, 3) := by decide +kernel
theorem dX11_read_96 : decode cX11_read 96 = .ok (.aload_n 0, 1) := by decide +kernel
theorem dX11_read_97 : decode cX11_read 97 = .ok (.getfield 113, 3) := by decide +kernel
theorem dX11_read_100 : decode cX11_read 100 = .ok (.iastore, 1) := by decide +kernel
theorem dX11_read_101 : decode cX11_read 101 = .ok (.aload_n 0, 1) := by decide +kernel
theorem dX11_read_102 : decode cX11_read 102 = .ok (.getfield 29, 3) := by decide +kernel
theorem dX11_read_105 : decode cX11_read 105 = .ok (.aload_n 0, 1) := by decide +kernel
theorem dX11_read_106 : decode cX11_read 106 = .ok (.getfield 123, 3) := by decide +kernel
theorem dX11_read_109 : decode cX11_read 109 = .ok (.iload_n 2, 1) := by decide +kernel
theorem dX11_read_110 : decode cX11_read 110 = .ok (.iload_n 1, 1) := by decide +kernel
theorem dX11_read_111 : decode cX11_read 111 = .ok (.if_icmp .ne 7, 3) := by decide +kernel
theorem dX11_read_114 : decode cX11_read 114 = .ok (.iconst 1, 1) := by decide +kernel
theorem dX11_read_115 : decode cX11_read 115 = .ok (.goto 4, 3) := by decide +kernel
theorem dX11_read_118 : decode cX11_read 118 = .ok (.iconst 0, 1) := by decide +kernel
theorem dX11_read_119 : decode cX11_read 119 = .ok (.bastore, 1) := by decide +kernel
theorem dX11_read_120 : decode cX11_read 120 = .ok (.aload_n 0, 1) := by decide +kernel
theorem dX11_read_121 : decode cX11_read 121 = .ok (.getfield 33, 3) := by decide +kernel
theorem dX11_read_124 : decode cX11_read 124 = .ok (.aload_n 0, 1) := by decide +kernel
theorem dX11_read_125 : decode cX11_read 125 = .ok (.getfield 123, 3) := by decide +kernel
theorem dX11_read_128 : decode cX11_read 128 = .ok (.aload_n 0, 1) := by decide +kernel
theorem dX11_read_129 : decode cX11_read 129 = .ok (.getfield 119, 3) := by decide +kernel
theorem dX11_read_132 : decode cX11_read 132 = .ok (.lastore, 1) := by decide +kernel
theorem dX11_read_133 : decode cX11_read 133 = .ok (.aload_n 0, 1) := by decide +kernel
theorem dX11_read_134 : decode cX11_read 134 = .ok (.getfield 40, 3) := by decide +kernel
theorem dX11_read_137 : decode cX11_read 137 = .ok (.aload_n 0, 1) := by decide +kernel
theorem dX11_read_138 : decode cX11_read 138 = .ok (.getfield 123, 3) := by decide +kernel
theorem dX11_read_141 : decode cX11_read 141 = .ok (.iload_n 3, 1) := by decide +kernel
theorem dX11_read_142 : decode cX11_read 142 = .ok (.iastore, 1) := by decide +kernel
theorem dX11_read_143 : decode cX11_read 143 = .ok (.aload_n 0, 1) := by decide +kernel
theorem dX11_read_144 : decode cX11_read 144 = .ok (.getfield 43, 3) := by decide +kernel
theorem dX11_read_147 : decode cX11_read 147 = .ok (.aload_n 0, 1) := by decide +kernel
theorem dX11_read_148 : decode cX11_read 148 = .ok (.getfield 123, 3) := by decide +kernel
theorem dX11_read_151 : decode cX11_read 151 = .ok (.aload_n 0, 1) := by decide +kernel
theorem dX11_read_152 : decode cX11_read 152 = .ok (.getfield 126, 3) := by decide +kernel
theorem dX11_read_155 : decode cX11_read 155 = .ok (.iload_n 3, 1) := by decide +kernel
theorem dX11_read_156 : decode cX11_read 156 = .ok (.isub, 1) := by decide +kernel
theorem dX11_read_157 : decode cX11_read 157 = .ok (.iastore, 1) := by decide +kernel
theorem dX11_read_158 : decode cX11_read 158 = .ok (.aload_n 0, 1) := by decide +kernel
theorem dX11_read_159 : decode cX11_read 159 = .ok (.dup, 1) := by decide +kernel
theorem dX11_read_160 : decode cX11_read 160 = .ok (.getfield 123, 3) := by decide +kernel
theorem dX11_read_163 : decode cX11_read 163 = .ok (.iconst 1, 1) := by decide +kernel
theorem dX11_read_164 : decode cX11_read 164 = .ok (.iadd, 1) := by decide +kernel
theorem dX11_read_165 : decode cX11_read 165 = .ok (.putfield 123, 3) := by decide +kernel
theorem dX11_read_168 : decode cX11_read 168 = .ok (.aload_n 0, 1) := by decide +kernel
theorem dX11_read_169 : decode cX11_read 169 = .ok (.getfield 77, 3) := by decide +kernel
theorem dX11_read_172 : decode cX11_read 172 = .ok (.istore_n 1, 1) := by decide +kernel
theorem dX11_read_173 : decode cX11_read 173 = .ok (.aload_n 0, 1) := by decide +kernel
theorem dX11_read_174 : decode cX11_read 174 = .ok (.dup, 1) := by decide +kernel
theorem dX11_read_175 : decode cX11_read 175 = .ok (.getfield 167, 3) := by decide +kernel
theorem dX11_read_178 : decode cX11_read 178 = .ok (.iconst 1, 1) := by decide +kernel
theorem dX11_read_179 : decode cX11_read 179 = .ok (.iadd, 1) := by decide +kernel
theorem dX11_read_180 : decode cX11_read 180 = .ok (.putfield 167, 3) := by decide +kernel
theorem dX11_read_183 : decode cX11_read 183 = .ok (.goto (-156), 3) := by decide +kernel
theorem dX11_read_186 : decode cX11_read 186 = .ok (.aload_n 0, 1) := by decide +kernel
theorem dX11_read_187 : decode cX11_read 187 = .ok (.iconst 0, 1) := by decide +kernel
theorem dX11_read_188 : decode cX11_read 188 = .ok (.putfield 64, 3) := by decide +kernel
theorem dX11_read_191 : decode cX11_read 191 = .ok (.aload_n 0, 1) := by decide +kernel
theorem dX11_read_192 : decode cX11_read 192 = .ok (.invokevirtual 67, 3) := by decide +kernel
theorem dX11_read_195 : decode cX11_read 195 = .ok (.aload_n 0, 1) := by decide +kernel
theorem dX11_read_196 : decode cX11_read 196 = .ok (.aload_n 0, 1) := by decide +kernel
theorem dX11_read_197 : decode cX11_read 197 = .ok (.getfield 46, 3) := by decide +kernel
theorem dX11_read_200 : decode cX11_read 200 = .ok (.ifCond .lt 7, 3) := by decide +kernel
theorem dX11_read_203 : decode cX11_read 203 = .ok (.iconst 1, 1) := by decide +kernel
theorem dX11_read_204 : decode cX11_read 204 = .ok (.goto 4, 3) := by decide +kernel
theorem dX11_read_207 : decode cX11_read 207 = .ok (.iconst 0, 1) := by decide +kernel
theorem dX11_read_208 : decode cX11_read 208 = .ok (.putfield 50, 3) := by decide +kernel
theorem dX11_read_211 : decode cX11_read 211 = .ok (.aload_n 0, 1) := by decide +kernel
theorem dX11_read_212 : decode cX11_read 212 = .ok (.getfield 46, 3) := by decide +kernel
theorem dX11_read_215 : decode cX11_read 215 = .ok (.ifCond .lt 7, 3) := by decide +kernel
theorem dX11_read_218 : decode cX11_read 218 = .ok (.iconst 0, 1) := by decide +kernel
theorem dX11_read_219 : decode cX11_read 219 = .ok (.goto 23, 3) := by decide +kernel
theorem dX11_read_222 : decode cX11_read 222 = .ok (.aload_n 0, 1) := by decide +kernel
theorem dX11_read_223 : decode cX11_read 223 = .ok (.getfield 167, 3) := by decide +kernel
theorem dX11_read_226 : decode cX11_read 226 = .ok (.sipush 8192, 3) := by decide +kernel
theorem dX11_read_229 : decode cX11_read 229 = .ok (.if_icmp .le 9, 3) := by decide +kernel
theorem dX11_read_232 : decode cX11_read 232 = .ok (.sipush 8193, 3) := by decide +kernel
theorem dX11_read_235 : decode cX11_read 235 = .ok (.goto 7, 3) := by decide +kernel
theorem dX11_read_238 : decode cX11_read 238 = .ok (.aload_n 0, 1) := by decide +kernel
theorem dX11_read_239 : decode cX11_read 239 = .ok (.getfield 167, 3) := by decide +kernel
theorem dX11_read_242 : decode cX11_read 242 = .ok (.ireturn, 1) := by decide +kernel
theorem dX11_wrong_0 : decode cX11_wrong 0 = .ok (.aload_n 0, 1) := by decide +kernel
theorem dX11_wrong_1 : decode cX11_wrong 1 = .ok (.iconst 0, 1) := by decide +kernel
theorem dX11_wrong_2 : decode cX11_wrong 2 = .ok (.putfield 50, 3) := by decide +kernel
theorem dX11_wrong_5 : decode cX11_wrong 5 = .ok (.aload_n 0, 1) := by decide +kernel
theorem dX11_wrong_6 : decode cX11_wrong 6 = .ok (.getfield 46, 3) := by decide +kernel
theorem dX11_wrong_9 : decode cX11_wrong 9 = .ok (.ireturn, 1) := by decide +kernel
theorem dX11_isToken_0 : decode cX11_isToken 0 = .ok (.aload_n 0, 1) := by decide +kernel
theorem dX11_isToken_1 : decode cX11_isToken 1 = .ok (.iload_n 1, 1) := by decide +kernel
theorem dX11_isToken_2 : decode cX11_isToken 2 = .ok (.ifCond .lt 11, 3) := by decide +kernel
theorem dX11_isToken_5 : decode cX11_isToken 5 = .ok (.iload_n 1, 1) := by decide +kernel
theorem dX11_isToken_6 : decode cX11_isToken 6 = .ok (.aload_n 0, 1) := by decide +kernel
theorem dX11_isToken_7 : decode cX11_isToken 7 = .ok (.getfield 123, 3) := by decide +kernel
theorem dX11_isToken_10 : decode cX11_isToken 10 = .ok (.if_icmp .lt 7, 3) := by decide +kernel
theorem dX11_isToken_13 : decode cX11_isToken 13 = .ok (.iconst 1, 1) := by decide +kernel
theorem dX11_isToken_14 : decode cX11_isToken 14 = .ok (.goto 4, 3) := by decide +kernel
theorem dX11_isToken_17 : decode cX11_isToken 17 = .ok (.iconst 0, 1) := by decide +kernel
theorem dX11_isToken_18 : decode cX11_isToken 18 = .ok (.putfield 50, 3) := by decide +kernel
theorem dX11_isToken_21 : decode cX11_isToken 21 = .ok (.aload_n 0, 1) := by decide +kernel
theorem dX11_isToken_22 : decode cX11_isToken 22 = .ok (.getfield 50, 3) := by decide +kernel
theorem dX11_isToken_25 : decode cX11_isToken 25 = .ok (.ifCond .ne 7, 3) := by decide +kernel
theorem dX11_isToken_28 : decode cX11_isToken 28 = .ok (.iconst 1, 1) := by decide +kernel
theorem dX11_isToken_29 : decode cX11_isToken 29 = .ok (.goto 4, 3) := by decide +kernel
theorem dX11_isToken_32 : decode cX11_isToken 32 = .ok (.iconst 0, 1) := by decide +kernel
theorem dX11_isToken_33 : decode cX11_isToken 33 = .ok (.ireturn, 1) := by decide +kernel
set_option maxRecDepth 20000 in
theorem ggX11_kind_X11_isToken : GoodIn wsX11_kind wsX11_isToken := goodIn_r _ [6, 7, 8, 9, 10, 11, 12, 13, 14, 15, 16, 17, 18, 19, 20, 21, 22, 23, 24, 25, 26, 27, 28, 29] rfl (by decide +kernel)
set_option maxRecDepth 20000 in
theorem gX11_kind_X11_isToken : GoodIn wsX11_kind (wsV RX11 177 RX11 yX11_isToken wsX11_isToken) := goodIn_app (goodIn_of _ (by decide +kernel)) ggX11_kind_X11_isToken
theorem dX11_kind_0 : decode cX11_kind 0 = .ok (.aload_n 0, 1) := by decide +kernel
theorem dX11_kind_1 : decode cX11_kind 1 = .ok (.iload_n 1, 1) := by decide +kernel
theorem dX11_kind_2 : decode cX11_kind 2 = .ok (.invokevirtual 177, 3) := by decide +kernel
theorem dX11_kind_5 : decode cX11_kind 5 = .ok (.ifCond .eq 12, 3) := by decide +kernel
theorem dX11_kind_8 : decode cX11_kind 8 = .ok (.aload_n 0, 1) := by decide +kernel
theorem dX11_kind_9 : decode cX11_kind 9 = .ok (.getfield 26, 3) := by decide +kernel
theorem dX11_kind_12 : decode cX11_kind 12 = .ok (.iload_n 1, 1) := by decide +kernel
theorem dX11_kind_13 : decode cX11_kind 13 = .ok (.iaload, 1) := by decide +kernel
theorem dX11_kind_14 : decode cX11_kind 14 = .ok (.goto 4, 3) := by decide +kernel
theorem dX11_kind_17 : decode cX11_kind 17 = .ok (.iconst 0, 1) := by decide +kernel
theorem dX11_kind_18 : decode cX11_kind 18 = .ok (.ireturn, 1) := by decide +kernel
set_option maxRecDepth 20000 in
theorem ggX11_glued_X11_isToken : GoodIn wsX11_glued wsX11_isToken := goodIn_r _ [6, 7, 8, 9, 10, 11, 12, 13, 14, 15, 16, 17, 18, 19, 20, 21, 22, 23, 24, 25, 26, 27, 28, 29] rfl (by decide +kernel)
set_option maxRecDepth 20000 in
theorem gX11_glued_X11_isToken : GoodIn wsX11_glued (wsV RX11 177 RX11 yX11_isToken wsX11_isToken) := goodIn_app (goodIn_of _ (by decide +kernel)) ggX11_glued_X11_isToken
theorem dX11_glued_0 : decode cX11_glued 0 = .ok (.aload_n 0, 1) := by decide +kernel
theorem dX11_glued_1 : decode cX11_glued 1 = .ok (.iload_n 1, 1) := by decide +kernel
theorem dX11_glued_2 : decode cX11_glued 2 = .ok (.invokevirtual 177, 3) := by decide +kernel
theorem dX11_glued_5 : decode cX11_glued 5 = .ok (.ifCond .eq 16, 3) := by decide +kernel
theorem dX11_glued_8 : decode cX11_glued 8 = .ok (.aload_n 0, 1) := by decide +kernel
theorem dX11_glued_9 : decode cX11_glued 9 = .ok (.getfield 29, 3) := by decide +kernel
theorem dX11_glued_12 : decode cX11_glued 12 = .ok (.iload_n 1, 1) := by decide +kernel
theorem dX11_glued_13 : decode cX11_glued 13 = .ok (.baload, 1) := by decide +kernel
theorem dX11_glued_14 : decode cX11_glued 14 = .ok (.ifCond .eq 7, 3) := by decide +kernel
theorem dX11_glued_17 : decode cX11_glued 17 = .ok (.iconst 1, 1) := by decide +kernel
theorem dX11_glued_18 : decode cX11_glued 18 = .ok (.goto 4, 3) := by decide +kernel
theorem dX11_glued_21 : decode cX11_glued 21 = .ok (.iconst 0, 1) := by decide +kernel
theorem dX11_glued_22 : decode cX11_glued 22 = .ok (.ireturn, 1) := by decide +kernel
set_option maxRecDepth 20000 in
theorem ggX11_value_X11_isToken : GoodIn wsX11_value wsX11_isToken := goodIn_r _ [6, 7, 8, 9, 10, 11, 12, 13, 14, 15, 16, 17, 18, 19, 20, 21, 22, 23, 24, 25, 26, 27, 28, 29] rfl (by decide +kernel)
set_option maxRecDepth 20000 in
theorem gX11_value_X11_isToken : GoodIn wsX11_value (wsV RX11 177 RX11 yX11_isToken wsX11_isToken) := goodIn_app (goodIn_of _ (by decide +kernel)) ggX11_value_X11_isToken
theorem dX11_value_0 : decode cX11_value 0 = .ok (.aload_n 0, 1) := by decide +kernel
theorem dX11_value_1 : decode cX11_value 1 = .ok (.iload_n 1, 1) := by decide +kernel
theorem dX11_value_2 : decode cX11_value 2 = .ok (.invokevirtual 177, 3) := by decide +kernel
theorem dX11_value_5 : decode cX11_value 5 = .ok (.ifCond .eq 12, 3) := by decide +kernel
theorem dX11_value_8 : decode cX11_value 8 = .ok (.aload_n 0, 1) := by decide +kernel
theorem dX11_value_9 : decode cX11_value 9 = .ok (.getfield 33, 3) := by decide +kernel
theorem dX11_value_12 : decode cX11_value 12 = .ok (.iload_n 1, 1) := by decide +kernel
theorem dX11_value_13 : decode cX11_value 13 = .ok (.laload, 1) := by decide +kernel
theorem dX11_value_14 : decode cX11_value 14 = .ok (.goto 4, 3) := by decide +kernel
theorem dX11_value_17 : decode cX11_value 17 = .ok (.lconst 0, 1) := by decide +kernel
theorem dX11_value_18 : decode cX11_value 18 = .ok (.lreturn, 1) := by decide +kernel
set_option maxRecDepth 20000 in
theorem ggX11_at_X11_isToken : GoodIn wsX11_at wsX11_isToken := goodIn_r _ [9, 10, 11, 16, 17, 18, 19, 20, 21, 22, 23, 24, 25, 26, 27, 28, 29, 30, 31, 32, 33, 34, 35, 36] rfl (by decide +kernel)
set_option maxRecDepth 20000 in
theorem gX11_at_X11_isToken : GoodIn wsX11_at (wsV RX11 177 RX11 yX11_isToken wsX11_isToken) := goodIn_app (goodIn_of _ (by decide +kernel)) ggX11_at_X11_isToken
set_option maxRecDepth 20000 in
theorem ggX11_at_X11_fails : GoodIn wsX11_at wsX11_fails := goodIn_r _ [15, 11, 16, 17, 18, 19, 20, 21, 22, 23, 24, 25, 26, 27, 28, 29, 30, 31, 32, 33, 34, 35, 36] rfl (by decide +kernel)
set_option maxRecDepth 20000 in
theorem gX11_at_X11_fails : GoodIn wsX11_at (wsV RX11 56 RX11 yX11_fails wsX11_fails) := goodIn_app (goodIn_of _ (by decide +kernel)) ggX11_at_X11_fails
theorem dX11_at_0 : decode cX11_at 0 = .ok (.aload_n 0, 1) := by decide +kernel
theorem dX11_at_1 : decode cX11_at 1 = .ok (.iload_n 1, 1) := by decide +kernel
theorem dX11_at_2 : decode cX11_at 2 = .ok (.invokevirtual 177, 3) := by decide +kernel
theorem dX11_at_5 : decode cX11_at 5 = .ok (.ifCond .ne 5, 3) := by decide +kernel
theorem dX11_at_8 : decode cX11_at 8 = .ok (.iconst 0, 1) := by decide +kernel
theorem dX11_at_9 : decode cX11_at 9 = .ok (.ireturn, 1) := by decide +kernel
theorem dX11_at_10 : decode cX11_at 10 = .ok (.aload_n 0, 1) := by decide +kernel
theorem dX11_at_11 : decode cX11_at 11 = .ok (.getfield 26, 3) := by decide +kernel
theorem dX11_at_14 : decode cX11_at 14 = .ok (.iload_n 1, 1) := by decide +kernel
theorem dX11_at_15 : decode cX11_at 15 = .ok (.iaload, 1) := by decide +kernel
theorem dX11_at_16 : decode cX11_at 16 = .ok (.bipush 60, 2) := by decide +kernel
theorem dX11_at_18 : decode cX11_at 18 = .ok (.if_icmp .le 14, 3) := by decide +kernel
theorem dX11_at_21 : decode cX11_at 21 = .ok (.aload_n 0, 1) := by decide +kernel
theorem dX11_at_22 : decode cX11_at 22 = .ok (.getfield 26, 3) := by decide +kernel
theorem dX11_at_25 : decode cX11_at 25 = .ok (.iload_n 1, 1) := by decide +kernel
theorem dX11_at_26 : decode cX11_at 26 = .ok (.iaload, 1) := by decide +kernel
theorem dX11_at_27 : decode cX11_at 27 = .ok (.bipush 66, 2) := by decide +kernel
theorem dX11_at_29 : decode cX11_at 29 = .ok (.if_icmp .ne 17, 3) := by decide +kernel
theorem dX11_at_32 : decode cX11_at 32 = .ok (.iload_n 2, 1) := by decide +kernel
theorem dX11_at_33 : decode cX11_at 33 = .ok (.ifCond .lt 13, 3) := by decide +kernel
theorem dX11_at_36 : decode cX11_at 36 = .ok (.iload_n 2, 1) := by decide +kernel
theorem dX11_at_37 : decode cX11_at 37 = .ok (.aload_n 0, 1) := by decide +kernel
theorem dX11_at_38 : decode cX11_at 38 = .ok (.getfield 43, 3) := by decide +kernel
theorem dX11_at_41 : decode cX11_at 41 = .ok (.iload_n 1, 1) := by decide +kernel
theorem dX11_at_42 : decode cX11_at 42 = .ok (.iaload, 1) := by decide +kernel
theorem dX11_at_43 : decode cX11_at 43 = .ok (.if_icmp .lt 9, 3) := by decide +kernel
theorem dX11_at_46 : decode cX11_at 46 = .ok (.aload_n 0, 1) := by decide +kernel
theorem dX11_at_47 : decode cX11_at 47 = .ok (.iconst 1, 1) := by decide +kernel
theorem dX11_at_48 : decode cX11_at 48 = .ok (.invokevirtual 56, 3) := by decide +kernel
theorem dX11_at_51 : decode cX11_at 51 = .ok (.ireturn, 1) := by decide +kernel
theorem dX11_at_52 : decode cX11_at 52 = .ok (.aload_n 0, 1) := by decide +kernel
theorem dX11_at_53 : decode cX11_at 53 = .ok (.getfield 37, 3) := by decide +kernel
theorem dX11_at_56 : decode cX11_at 56 = .ok (.aload_n 0, 1) := by decide +kernel
theorem dX11_at_57 : decode cX11_at 57 = .ok (.getfield 40, 3) := by decide +kernel
theorem dX11_at_60 : decode cX11_at 60 = .ok (.iload_n 1, 1) := by decide +kernel
theorem dX11_at_61 : decode cX11_at 61 = .ok (.iaload, 1) := by decide +kernel
theorem dX11_at_62 : decode cX11_at 62 = .ok (.iload_n 2, 1) := by decide +kernel
theorem dX11_at_63 : decode cX11_at 63 = .ok (.iadd, 1) := by decide +kernel
theorem dX11_at_64 : decode cX11_at 64 = .ok (.iaload, 1) := by decide +kernel
theorem dX11_at_65 : decode cX11_at 65 = .ok (.ireturn, 1) := by decide +kernel
set_option maxRecDepth 20000 in
theorem ggX11_same_X11_isToken : GoodIn wsX11_same wsX11_isToken := goodIn_r _ [10, 11, 2, 12, 13, 14, 15, 16, 17, 18, 19, 20, 21, 22, 23, 24, 25, 26, 27, 28, 29, 30, 31, 32] rfl (by decide +kernel)
set_option maxRecDepth 20000 in
theorem gX11_same_X11_isToken : GoodIn wsX11_same (wsV RX11 177 RX11 yX11_isToken wsX11_isToken) := goodIn_app (goodIn_of _ (by decide +kernel)) ggX11_same_X11_isToken
theorem dX11_same_0 : decode cX11_same 0 = .ok (.aload_n 0, 1) := by decide +kernel
theorem dX11_same_1 : decode cX11_same 1 = .ok (.iload_n 1, 1) := by decide +kernel
theorem dX11_same_2 : decode cX11_same 2 = .ok (.invokevirtual 177, 3) := by decide +kernel
theorem dX11_same_5 : decode cX11_same 5 = .ok (.ifCond .eq 25, 3) := by decide +kernel
theorem dX11_same_8 : decode cX11_same 8 = .ok (.aload_n 0, 1) := by decide +kernel
theorem dX11_same_9 : decode cX11_same 9 = .ok (.getfield 26, 3) := by decide +kernel
theorem dX11_same_12 : decode cX11_same 12 = .ok (.iload_n 1, 1) := by decide +kernel
theorem dX11_same_13 : decode cX11_same 13 = .ok (.iaload, 1) := by decide +kernel
theorem dX11_same_14 : decode cX11_same 14 = .ok (.bipush 60, 2) := by decide +kernel
theorem dX11_same_16 : decode cX11_same 16 = .ok (.if_icmp .le 27, 3) := by decide +kernel
theorem dX11_same_19 : decode cX11_same 19 = .ok (.aload_n 0, 1) := by decide +kernel
theorem dX11_same_20 : decode cX11_same 20 = .ok (.getfield 26, 3) := by decide +kernel
theorem dX11_same_23 : decode cX11_same 23 = .ok (.iload_n 1, 1) := by decide +kernel
theorem dX11_same_24 : decode cX11_same 24 = .ok (.iaload, 1) := by decide +kernel
theorem dX11_same_25 : decode cX11_same 25 = .ok (.bipush 66, 2) := by decide +kernel
theorem dX11_same_27 : decode cX11_same 27 = .ok (.if_icmp .eq 16, 3) := by decide +kernel
theorem dX11_same_30 : decode cX11_same 30 = .ok (.aload_n 0, 1) := by decide +kernel
theorem dX11_same_31 : decode cX11_same 31 = .ok (.getfield 50, 3) := by decide +kernel
theorem dX11_same_34 : decode cX11_same 34 = .ok (.ifCond .ne 7, 3) := by decide +kernel
theorem dX11_same_37 : decode cX11_same 37 = .ok (.iconst (-1), 1) := by decide +kernel
theorem dX11_same_38 : decode cX11_same 38 = .ok (.goto 4, 3) := by decide +kernel
theorem dX11_same_41 : decode cX11_same 41 = .ok (.iconst 0, 1) := by decide +kernel
theorem dX11_same_42 : decode cX11_same 42 = .ok (.ireturn, 1) := by decide +kernel
theorem dX11_same_43 : decode cX11_same 43 = .ok (.iconst 0, 1) := by decide +kernel
theorem dX11_same_44 : decode cX11_same 44 = .ok (.istore_n 2, 1) := by decide +kernel
theorem dX11_same_45 : decode cX11_same 45 = .ok (.iload_n 2, 1) := by decide +kernel
theorem dX11_same_46 : decode cX11_same 46 = .ok (.iload_n 1, 1) := by decide +kernel
theorem dX11_same_47 : decode cX11_same 47 = .ok (.if_icmp .ge 118, 3) := by decide +kernel
theorem dX11_same_50 : decode cX11_same 50 = .ok (.aload_n 0, 1) := by decide +kernel
theorem dX11_same_51 : decode cX11_same 51 = .ok (.getfield 26, 3) := by decide +kernel
theorem dX11_same_54 : decode cX11_same 54 = .ok (.iload_n 2, 1) := by decide +kernel
theorem dX11_same_55 : decode cX11_same 55 = .ok (.iaload, 1) := by decide +kernel
theorem dX11_same_56 : decode cX11_same 56 = .ok (.bipush 60, 2) := by decide +kernel
theorem dX11_same_58 : decode cX11_same 58 = .ok (.if_icmp .le 14, 3) := by decide +kernel
theorem dX11_same_61 : decode cX11_same 61 = .ok (.aload_n 0, 1) := by decide +kernel
theorem dX11_same_62 : decode cX11_same 62 = .ok (.getfield 26, 3) := by decide +kernel
theorem dX11_same_65 : decode cX11_same 65 = .ok (.iload_n 2, 1) := by decide +kernel
theorem dX11_same_66 : decode cX11_same 66 = .ok (.iaload, 1) := by decide +kernel
theorem dX11_same_67 : decode cX11_same 67 = .ok (.bipush 66, 2) := by decide +kernel
theorem dX11_same_69 : decode cX11_same 69 = .ok (.if_icmp .ne 90, 3) := by decide +kernel
theorem dX11_same_72 : decode cX11_same 72 = .ok (.aload_n 0, 1) := by decide +kernel
theorem dX11_same_73 : decode cX11_same 73 = .ok (.getfield 43, 3) := by decide +kernel
theorem dX11_same_76 : decode cX11_same 76 = .ok (.iload_n 2, 1) := by decide +kernel
theorem dX11_same_77 : decode cX11_same 77 = .ok (.iaload, 1) := by decide +kernel
theorem dX11_same_78 : decode cX11_same 78 = .ok (.aload_n 0, 1) := by decide +kernel
theorem dX11_same_79 : decode cX11_same 79 = .ok (.getfield 43, 3) := by decide +kernel
theorem dX11_same_82 : decode cX11_same 82 = .ok (.iload_n 1, 1) := by decide +kernel
theorem dX11_same_83 : decode cX11_same 83 = .ok (.iaload, 1) := by decide +kernel
theorem dX11_same_84 : decode cX11_same 84 = .ok (.if_icmp .eq 6, 3) := by decide +kernel
theorem dX11_same_87 : decode cX11_same 87 = .ok (.goto 72, 3) := by decide +kernel
theorem dX11_same_90 : decode cX11_same 90 = .ok (.iconst 1, 1) := by decide +kernel
theorem dX11_same_91 : decode cX11_same 91 = .ok (.istore_n 3, 1) := by decide +kernel
theorem dX11_same_92 : decode cX11_same 92 = .ok (.iconst 0, 1) := by decide +kernel
theorem dX11_same_93 : decode cX11_same 93 = .ok (.istore 4, 2) := by decide +kernel
theorem dX11_same_95 : decode cX11_same 95 = .ok (.iload 4, 2) := by decide +kernel
theorem dX11_same_97 : decode cX11_same 97 = .ok (.aload_n 0, 1) := by decide +kernel
theorem dX11_same_98 : decode cX11_same 98 = .ok (.getfield 43, 3) := by decide +kernel
theorem dX11_same_101 : decode cX11_same 101 = .ok (.iload_n 1, 1) := by decide +kernel
theorem dX11_same_102 : decode cX11_same 102 = .ok (.iaload, 1) := by decide +kernel
theorem dX11_same_103 : decode cX11_same 103 = .ok (.if_icmp .ge 50, 3) := by decide +kernel
theorem dX11_same_106 : decode cX11_same 106 = .ok (.iload_n 3, 1) := by decide +kernel
theorem dX11_same_107 : decode cX11_same 107 = .ok (.ifCond .eq 46, 3) := by decide +kernel
theorem dX11_same_110 : decode cX11_same 110 = .ok (.aload_n 0, 1) := by decide +kernel
theorem dX11_same_111 : decode cX11_same 111 = .ok (.getfield 37, 3) := by decide +kernel
theorem dX11_same_114 : decode cX11_same 114 = .ok (.aload_n 0, 1) := by decide +kernel
theorem dX11_same_115 : decode cX11_same 115 = .ok (.getfield 40, 3) := by decide +kernel
theorem dX11_same_118 : decode cX11_same 118 = .ok (.iload_n 2, 1) := by decide +kernel
theorem dX11_same_119 : decode cX11_same 119 = .ok (.iaload, 1) := by decide +kernel
theorem dX11_same_120 : decode cX11_same 120 = .ok (.iload 4, 2) := by decide +kernel
theorem dX11_same_122 : decode cX11_same 122 = .ok (.iadd, 1) := by decide +kernel
theorem dX11_same_123 : decode cX11_same 123 = .ok (.iaload, 1) := by decide +kernel
theorem dX11_same_124 : decode cX11_same 124 = .ok (.aload_n 0, 1) := by decide +kernel
theorem dX11_same_125 : decode cX11_same 125 = .ok (.getfield 37, 3) := by decide +kernel
theorem dX11_same_128 : decode cX11_same 128 = .ok (.aload_n 0, 1) := by decide +kernel
theorem dX11_same_129 : decode cX11_same 129 = .ok (.getfield 40, 3) := by decide +kernel
theorem dX11_same_132 : decode cX11_same 132 = .ok (.iload_n 1, 1) := by decide +kernel
theorem dX11_same_133 : decode cX11_same 133 = .ok (.iaload, 1) := by decide +kernel
theorem dX11_same_134 : decode cX11_same 134 = .ok (.iload 4, 2) := by decide +kernel
theorem dX11_same_136 : decode cX11_same 136 = .ok (.iadd, 1) := by decide +kernel
theorem dX11_same_137 : decode cX11_same 137 = .ok (.iaload, 1) := by decide +kernel
theorem dX11_same_138 : decode cX11_same 138 = .ok (.if_icmp .ne 7, 3) := by decide +kernel
theorem dX11_same_141 : decode cX11_same 141 = .ok (.iconst 1, 1) := by decide +kernel
theorem dX11_same_142 : decode cX11_same 142 = .ok (.goto 4, 3) := by decide +kernel
theorem dX11_same_145 : decode cX11_same 145 = .ok (.iconst 0, 1) := by decide +kernel
theorem dX11_same_146 : decode cX11_same 146 = .ok (.istore_n 3, 1) := by decide +kernel
theorem dX11_same_147 : decode cX11_same 147 = .ok (.iinc 4 1, 3) := by decide +kernel
theorem dX11_same_150 : decode cX11_same 150 = .ok (.goto (-55), 3) := by decide +kernel
theorem dX11_same_153 : decode cX11_same 153 = .ok (.iload_n 3, 1) := by decide +kernel
theorem dX11_same_154 : decode cX11_same 154 = .ok (.ifCond .eq 5, 3) := by decide +kernel
theorem dX11_same_157 : decode cX11_same 157 = .ok (.iload_n 2, 1) := by decide +kernel
theorem dX11_same_158 : decode cX11_same 158 = .ok (.ireturn, 1) := by decide +kernel
theorem dX11_same_159 : decode cX11_same 159 = .ok (.iinc 2 1, 3) := by decide +kernel
theorem dX11_same_162 : decode cX11_same 162 = .ok (.goto (-117), 3) := by decide +kernel
theorem dX11_same_165 : decode cX11_same 165 = .ok (.iconst (-1), 1) := by decide +kernel
theorem dX11_same_166 : decode cX11_same 166 = .ok (.ireturn, 1) := by decide +kernel
theorem dJ11_isValidCodePoint_9a6ad_0 : decode cJ11_isValidCodePoint_9a6ad 0 = .ok (.iload_n 0, 1) := by decide +kernel
theorem dJ11_isValidCodePoint_9a6ad_1 : decode cJ11_isValidCodePoint_9a6ad 1 = .ok (.bipush 16, 2) := by decide +kernel
theorem dJ11_isValidCodePoint_9a6ad_3 : decode cJ11_isValidCodePoint_9a6ad 3 = .ok (.iushr, 1) := by decide +kernel
theorem dJ11_isValidCodePoint_9a6ad_4 : decode cJ11_isValidCodePoint_9a6ad 4 = .ok (.istore_n 1, 1) := by decide +kernel
theorem dJ11_isValidCodePoint_9a6ad_5 : decode cJ11_isValidCodePoint_9a6ad 5 = .ok (.iload_n 1, 1) := by decide +kernel
theorem dJ11_isValidCodePoint_9a6ad_6 : decode cJ11_isValidCodePoint_9a6ad 6 = .ok (.bipush 17, 2) := by decide +kernel
theorem dJ11_isValidCodePoint_9a6ad_8 : decode cJ11_isValidCodePoint_9a6ad 8 = .ok (.if_icmp .ge 7, 3) := by decide +kernel
theorem dJ11_isValidCodePoint_9a6ad_11 : decode cJ11_isValidCodePoint_9a6ad 11 = .ok (.iconst 1, 1) := by decide +kernel
theorem dJ11_isValidCodePoint_9a6ad_12 : decode cJ11_isValidCodePoint_9a6ad 12 = .ok (.goto 4, 3) := by decide +kernel
theorem dJ11_isValidCodePoint_9a6ad_15 : decode cJ11_isValidCodePoint_9a6ad 15 = .ok (.iconst 0, 1) := by decide +kernel
theorem dJ11_isValidCodePoint_9a6ad_16 : decode cJ11_isValidCodePoint_9a6ad 16 = .ok (.ireturn, 1) := by decide +kernel
theorem dJ11_highSurrogate_5068e_0 : decode cJ11_highSurrogate_5068e 0 = .ok (.iload_n 0, 1) := by decide +kernel
theorem dJ11_highSurrogate_5068e_1 : decode cJ11_highSurrogate_5068e 1 = .ok (.bipush 10, 2) := by decide +kernel
theorem dJ11_highSurrogate_5068e_3 : decode cJ11_highSurrogate_5068e 3 = .ok (.iushr, 1) := by decide +kernel
theorem dJ11_highSurrogate_5068e_4 : decode cJ11_highSurrogate_5068e 4 = .ok (.ldc 110, 2) := by decide +kernel
theorem dJ11_highSurrogate_5068e_6 : decode cJ11_highSurrogate_5068e 6 = .ok (.iadd, 1) := by decide +kernel
theorem dJ11_highSurrogate_5068e_7 : decode cJ11_highSurrogate_5068e 7 = .ok (.i2c, 1) := by decide +kernel
theorem dJ11_highSurrogate_5068e_8 : decode cJ11_highSurrogate_5068e 8 = .ok (.ireturn, 1) := by decide +kernel
theorem dJ11_lowSurrogate_5068e_0 : decode cJ11_lowSurrogate_5068e 0 = .ok (.iload_n 0, 1) := by decide +kernel
theorem dJ11_lowSurrogate_5068e_1 : decode cJ11_lowSurrogate_5068e 1 = .ok (.sipush 1023, 3) := by decide +kernel
theorem dJ11_lowSurrogate_5068e_4 : decode cJ11_lowSurrogate_5068e 4 = .ok (.iand, 1) := by decide +kernel
theorem dJ11_lowSurrogate_5068e_5 : decode cJ11_lowSurrogate_5068e 5 = .ok (.ldc 76, 2) := by decide +kernel
theorem dJ11_lowSurrogate_5068e_7 : decode cJ11_lowSurrogate_5068e 7 = .ok (.iadd, 1) := by decide +kernel
theorem dJ11_lowSurrogate_5068e_8 : decode cJ11_lowSurrogate_5068e 8 = .ok (.i2c, 1) := by decide +kernel
theorem dJ11_lowSurrogate_5068e_9 : decode cJ11_lowSurrogate_5068e 9 = .ok (.ireturn, 1) := by decide +kernel
theorem dJ6_numberOfLeadingZeros_0f7a4_0 : decode cJ6_numberOfLeadingZeros_0f7a4 0 = .ok (.iload_n 0, 1) := by decide +kernel
theorem dJ6_numberOfLeadingZeros_0f7a4_1 : decode cJ6_numberOfLeadingZeros_0f7a4 1 = .ok (.ifCond .gt 14, 3) := by decide +kernel
theorem dJ6_numberOfLeadingZeros_0f7a4_4 : decode cJ6_numberOfLeadingZeros_0f7a4 4 = .ok (.iload_n 0, 1) := by decide +kernel
theorem dJ6_numberOfLeadingZeros_0f7a4_5 : decode cJ6_numberOfLeadingZeros_0f7a4 5 = .ok (.ifCond .ne 8, 3) := by decide +kernel
theorem dJ6_numberOfLeadingZeros_0f7a4_8 : decode cJ6_numberOfLeadingZeros_0f7a4 8 = .ok (.bipush 32, 2) := by decide +kernel
theorem dJ6_numberOfLeadingZeros_0f7a4_10 : decode cJ6_numberOfLeadingZeros_0f7a4 10 = .ok (.goto 4, 3) := by decide +kernel
theorem dJ6_numberOfLeadingZeros_0f7a4_13 : decode cJ6_numberOfLeadingZeros_0f7a4 13 = .ok (.iconst 0, 1) := by decide +kernel
theorem dJ6_numberOfLeadingZeros_0f7a4_14 : decode cJ6_numberOfLeadingZeros_0f7a4 14 = .ok (.ireturn, 1) := by decide +kernel
theorem dJ6_numberOfLeadingZeros_0f7a4_15 : decode cJ6_numberOfLeadingZeros_0f7a4 15 = .ok (.bipush 31, 2) := by decide +kernel
theorem dJ6_numberOfLeadingZeros_0f7a4_17 : decode cJ6_numberOfLeadingZeros_0f7a4 17 = .ok (.istore_n 1, 1) := by decide +kernel
theorem dJ6_numberOfLeadingZeros_0f7a4_18 : decode cJ6_numberOfLeadingZeros_0f7a4 18 = .ok (.iload_n 0, 1) := by decide +kernel
theorem dJ6_numberOfLeadingZeros_0f7a4_19 : decode cJ6_numberOfLeadingZeros_0f7a4 19 = .ok (.ldc_w 264, 3) := by decide +kernel
theorem dJ6_numberOfLeadingZeros_0f7a4_22 : decode cJ6_numberOfLeadingZeros_0f7a4 22 = .ok (.if_icmp .lt 11, 3) := by decide +kernel
theorem dJ6_numberOfLeadingZeros_0f7a4_25 : decode cJ6_numberOfLeadingZeros_0f7a4 25 = .ok (.iinc 1 (-16), 3) := by decide +kernel
theorem dJ6_numberOfLeadingZeros_0f7a4_28 : decode cJ6_numberOfLeadingZeros_0f7a4 28 = .ok (.iload_n 0, 1) := by decide +kernel
theorem dJ6_numberOfLeadingZeros_0f7a4_29 : decode cJ6_numberOfLeadingZeros_0f7a4 29 = .ok (.bipush 16, 2) := by decide +kernel
theorem dJ6_numberOfLeadingZeros_0f7a4_31 : decode cJ6_numberOfLeadingZeros_0f7a4 31 = .ok (.iushr, 1) := by decide +kernel
theorem dJ6_numberOfLeadingZeros_0f7a4_32 : decode cJ6_numberOfLeadingZeros_0f7a4 32 = .ok (.istore_n 0, 1) := by decide +kernel
theorem dJ6_numberOfLeadingZeros_0f7a4_33 : decode cJ6_numberOfLeadingZeros_0f7a4 33 = .ok (.iload_n 0, 1) := by decide +kernel
theorem dJ6_numberOfLeadingZeros_0f7a4_34 : decode cJ6_numberOfLeadingZeros_0f7a4 34 = .ok (.sipush 256, 3) := by decide +kernel
theorem dJ6_numberOfLeadingZeros_0f7a4_37 : decode cJ6_numberOfLeadingZeros_0f7a4 37 = .ok (.if_icmp .lt 11, 3) := by decide +kernel
theorem dJ6_numberOfLeadingZeros_0f7a4_40 : decode cJ6_numberOfLeadingZeros_0f7a4 40 = .ok (.iinc 1 (-8), 3) := by decide +kernel
theorem dJ6_numberOfLeadingZeros_0f7a4_43 : decode cJ6_numberOfLeadingZeros_0f7a4 43 = .ok (.iload_n 0, 1) := by decide +kernel
theorem dJ6_numberOfLeadingZeros_0f7a4_44 : decode cJ6_numberOfLeadingZeros_0f7a4 44 = .ok (.bipush 8, 2) := by decide +kernel
theorem dJ6_numberOfLeadingZeros_0f7a4_46 : decode cJ6_numberOfLeadingZeros_0f7a4 46 = .ok (.iushr, 1) := by decide +kernel
theorem dJ6_numberOfLeadingZeros_0f7a4_47 : decode cJ6_numberOfLeadingZeros_0f7a4 47 = .ok (.istore_n 0, 1) := by decide +kernel
theorem dJ6_numberOfLeadingZeros_0f7a4_48 : decode cJ6_numberOfLeadingZeros_0f7a4 48 = .ok (.iload_n 0, 1) := by decide +kernel
theorem dJ6_numberOfLeadingZeros_0f7a4_49 : decode cJ6_numberOfLeadingZeros_0f7a4 49 = .ok (.bipush 16, 2) := by decide +kernel
theorem dJ6_numberOfLeadingZeros_0f7a4_51 : decode cJ6_numberOfLeadingZeros_0f7a4 51 = .ok (.if_icmp .lt 10, 3) := by decide +kernel
theorem dJ6_numberOfLeadingZeros_0f7a4_54 : decode cJ6_numberOfLeadingZeros_0f7a4 54 = .ok (.iinc 1 (-4), 3) := by decide +kernel
theorem dJ6_numberOfLeadingZeros_0f7a4_57 : decode cJ6_numberOfLeadingZeros_0f7a4 57 = .ok (.iload_n 0, 1) := by decide +kernel
theorem dJ6_numberOfLeadingZeros_0f7a4_58 : decode cJ6_numberOfLeadingZeros_0f7a4 58 = .ok (.iconst 4, 1) := by decide +kernel
theorem dJ6_numberOfLeadingZeros_0f7a4_59 : decode cJ6_numberOfLeadingZeros_0f7a4 59 = .ok (.iushr, 1) := by decide +kernel
theorem dJ6_numberOfLeadingZeros_0f7a4_60 : decode cJ6_numberOfLeadingZeros_0f7a4 60 = .ok (.istore_n 0, 1) := by decide +kernel
theorem dJ6_numberOfLeadingZeros_0f7a4_61 : decode cJ6_numberOfLeadingZeros_0f7a4 61 = .ok (.iload_n 0, 1) := by decide +kernel
theorem dJ6_numberOfLeadingZeros_0f7a4_62 : decode cJ6_numberOfLeadingZeros_0f7a4 62 = .ok (.iconst 4, 1) := by decide +kernel
theorem dJ6_numberOfLeadingZeros_0f7a4_63 : decode cJ6_numberOfLeadingZeros_0f7a4 63 = .ok (.if_icmp .lt 10, 3) := by decide +kernel
theorem dJ6_numberOfLeadingZeros_0f7a4_66 : decode cJ6_numberOfLeadingZeros_0f7a4 66 = .ok (.iinc 1 (-2), 3) := by decide +kernel
theorem dJ6_numberOfLeadingZeros_0f7a4_69 : decode cJ6_numberOfLeadingZeros_0f7a4 69 = .ok (.iload_n 0, 1) := by decide +kernel
theorem dJ6_numberOfLeadingZeros_0f7a4_70 : decode cJ6_numberOfLeadingZeros_0f7a4 70 = .ok (.iconst 2, 1) := by decide +kernel
theorem dJ6_numberOfLeadingZeros_0f7a4_71 : decode cJ6_numberOfLeadingZeros_0f7a4 71 = .ok (.iushr, 1) := by decide +kernel
theorem dJ6_numberOfLeadingZeros_0f7a4_72 : decode cJ6_numberOfLeadingZeros_0f7a4 72 = .ok (.istore_n 0, 1) := by decide +kernel
theorem dJ6_numberOfLeadingZeros_0f7a4_73 : decode cJ6_numberOfLeadingZeros_0f7a4 73 = .ok (.iload_n 1, 1) := by decide +kernel
theorem dJ6_numberOfLeadingZeros_0f7a4_74 : decode cJ6_numberOfLeadingZeros_0f7a4 74 = .ok (.iload_n 0, 1) := by decide +kernel
theorem dJ6_numberOfLeadingZeros_0f7a4_75 : decode cJ6_numberOfLeadingZeros_0f7a4 75 = .ok (.iconst 1, 1) := by decide +kernel
theorem dJ6_numberOfLeadingZeros_0f7a4_76 : decode cJ6_numberOfLeadingZeros_0f7a4 76 = .ok (.iushr, 1) := by decide +kernel
theorem dJ6_numberOfLeadingZeros_0f7a4_77 : decode cJ6_numberOfLeadingZeros_0f7a4 77 = .ok (.isub, 1) := by decide +kernel
theorem dJ6_numberOfLeadingZeros_0f7a4_78 : decode cJ6_numberOfLeadingZeros_0f7a4 78 = .ok (.ireturn, 1) := by decide +kernel
theorem dJ9_max_7cf53_0 : decode cJ9_max_7cf53 0 = .ok (.iload_n 0, 1) := by decide +kernel
theorem dJ9_max_7cf53_1 : decode cJ9_max_7cf53 1 = .ok (.iload_n 1, 1) := by decide +kernel
theorem dJ9_max_7cf53_2 : decode cJ9_max_7cf53 2 = .ok (.if_icmp .lt 7, 3) := by decide +kernel
theorem dJ9_max_7cf53_5 : decode cJ9_max_7cf53 5 = .ok (.iload_n 0, 1) := by decide +kernel
theorem dJ9_max_7cf53_6 : decode cJ9_max_7cf53 6 = .ok (.goto 4, 3) := by decide +kernel
theorem dJ9_max_7cf53_9 : decode cJ9_max_7cf53 9 = .ok (.iload_n 1, 1) := by decide +kernel
theorem dJ9_max_7cf53_10 : decode cJ9_max_7cf53 10 = .ok (.ireturn, 1) := by decide +kernel
theorem dJ9_min_7cf53_0 : decode cJ9_min_7cf53 0 = .ok (.iload_n 0, 1) := by decide +kernel
theorem dJ9_min_7cf53_1 : decode cJ9_min_7cf53 1 = .ok (.iload_n 1, 1) := by decide +kernel
theorem dJ9_min_7cf53_2 : decode cJ9_min_7cf53 2 = .ok (.if_icmp .gt 7, 3) := by decide +kernel
theorem dJ9_min_7cf53_5 : decode cJ9_min_7cf53 5 = .ok (.iload_n 0, 1) := by decide +kernel
theorem dJ9_min_7cf53_6 : decode cJ9_min_7cf53 6 = .ok (.goto 4, 3) := by decide +kernel
theorem dJ9_min_7cf53_9 : decode cJ9_min_7cf53 9 = .ok (.iload_n 1, 1) := by decide +kernel
theorem dJ9_min_7cf53_10 : decode cJ9_min_7cf53 10 = .ok (.ireturn, 1) := by decide +kernel
set_option maxRecDepth 20000 in
theorem ggJ0_length_8abf5_J0_coder_7d493 : GoodIn wsJ0_length_8abf5 wsJ0_coder_7d493 := goodIn_r _ [6, 7, 8] rfl (by decide +kernel)
set_option maxRecDepth 20000 in
theorem gJ0_length_8abf5_J0_coder_7d493 : GoodIn wsJ0_length_8abf5 (wsV RJ0 335 RJ0 yJ0_coder_7d493 wsJ0_coder_7d493) := goodIn_app (goodIn_of _ (by decide +kernel)) ggJ0_length_8abf5_J0_coder_7d493
theorem dJ0_length_8abf5_0 : decode cJ0_length_8abf5 0 = .ok (.aload_n 0, 1) := by decide +kernel
theorem dJ0_length_8abf5_1 : decode cJ0_length_8abf5 1 = .ok (.getfield 9, 3) := by decide +kernel
theorem dJ0_length_8abf5_4 : decode cJ0_length_8abf5 4 = .ok (.arraylength, 1) := by decide +kernel
theorem dJ0_length_8abf5_5 : decode cJ0_length_8abf5 5 = .ok (.aload_n 0, 1) := by decide +kernel
theorem dJ0_length_8abf5_6 : decode cJ0_length_8abf5 6 = .ok (.invokevirtual 335, 3) := by decide +kernel
theorem dJ0_length_8abf5_9 : decode cJ0_length_8abf5 9 = .ok (.ishr, 1) := by decide +kernel
theorem dJ0_length_8abf5_10 : decode cJ0_length_8abf5 10 = .ok (.ireturn, 1) := by decide +kernel
set_option maxRecDepth 20000 in
theorem ggJ0_charAt_5068e_J0_isLatin1_aae02 : GoodIn wsJ0_charAt_5068e wsJ0_isLatin1_aae02 := goodIn_r _ [6, 7, 8] rfl (by decide +kernel)
set_option maxRecDepth 20000 in
theorem gJ0_charAt_5068e_J0_isLatin1_aae02 : GoodIn wsJ0_charAt_5068e (wsV RJ0 492 RJ0 yJ0_isLatin1_aae02 wsJ0_isLatin1_aae02) := goodIn_app (goodIn_of _ (by decide +kernel)) ggJ0_charAt_5068e_J0_isLatin1_aae02
set_option maxRecDepth 20000 in
theorem ggJ0_charAt_5068e_J1_charAt_3b067 : GoodIn wsJ0_charAt_5068e wsJ1_charAt_3b067 := goodIn_r _ [12, 13, 14, 5, 15, 16, 17, 18, 19, 20] rfl (by decide +kernel)
set_option maxRecDepth 20000 in
theorem gJ0_charAt_5068e_J1_charAt_3b067 : GoodIn wsJ0_charAt_5068e (va_wsS RJ0 495 yJ1_charAt_3b067 wsJ1_charAt_3b067) := goodIn_app (goodIn_of _ (by decide +kernel)) ggJ0_charAt_5068e_J1_charAt_3b067
set_option maxRecDepth 20000 in
theorem ggJ0_charAt_5068e_J2_charAt_3b067 : GoodIn wsJ0_charAt_5068e wsJ2_charAt_3b067 := goodIn_r _ [24, 25, 26, 23, 27, 28, 29, 30, 31, 14, 5, 15, 16, 17, 18, 19, 20, 32, 33, 34, 35, 36, 37] rfl (by decide +kernel)
set_option maxRecDepth 20000 in
theorem gJ0_charAt_5068e_J2_charAt_3b067 : GoodIn wsJ0_charAt_5068e (va_wsS RJ0 498 yJ2_charAt_3b067 wsJ2_charAt_3b067) := goodIn_app (goodIn_of _ (by decide +kernel)) ggJ0_charAt_5068e_J2_charAt_3b067
theorem dJ0_charAt_5068e_0 : decode cJ0_charAt_5068e 0 = .ok (.aload_n 0, 1) := by decide +kernel
theorem dJ0_charAt_5068e_1 : decode cJ0_charAt_5068e 1 = .ok (.invokevirtual 492, 3) := by decide +kernel
theorem dJ0_charAt_5068e_4 : decode cJ0_charAt_5068e 4 = .ok (.ifCond .eq 12, 3) := by decide +kernel
theorem dJ0_charAt_5068e_7 : decode cJ0_charAt_5068e 7 = .ok (.aload_n 0, 1) := by decide +kernel
theorem dJ0_charAt_5068e_8 : decode cJ0_charAt_5068e 8 = .ok (.getfield 9, 3) := by decide +kernel
theorem dJ0_charAt_5068e_11 : decode cJ0_charAt_5068e 11 = .ok (.iload_n 1, 1) := by decide +kernel
theorem dJ0_charAt_5068e_12 : decode cJ0_charAt_5068e 12 = .ok (.invokestatic 495, 3) := by decide +kernel
theorem dJ0_charAt_5068e_15 : decode cJ0_charAt_5068e 15 = .ok (.ireturn, 1) := by decide +kernel
theorem dJ0_charAt_5068e_16 : decode cJ0_charAt_5068e 16 = .ok (.aload_n 0, 1) := by decide +kernel
theorem dJ0_charAt_5068e_17 : decode cJ0_charAt_5068e 17 = .ok (.getfield 9, 3) := by decide +kernel
theorem dJ0_charAt_5068e_20 : decode cJ0_charAt_5068e 20 = .ok (.iload_n 1, 1) := by decide +kernel
theorem dJ0_charAt_5068e_21 : decode cJ0_charAt_5068e 21 = .ok (.invokestatic 498, 3) := by decide +kernel
theorem dJ0_charAt_5068e_24 : decode cJ0_charAt_5068e 24 = .ok (.ireturn, 1) := by decide +kernel
set_option maxRecDepth 20000 in
theorem ggJ0_indexOf_7cf53_J0_isLatin1_aae02 : GoodIn wsJ0_indexOf_7cf53 wsJ0_isLatin1_aae02 := goodIn_r _ [6, 7, 8] rfl (by decide +kernel)
set_option maxRecDepth 20000 in
theorem gJ0_indexOf_7cf53_J0_isLatin1_aae02 : GoodIn wsJ0_indexOf_7cf53 (wsV RJ0 492 RJ0 yJ0_isLatin1_aae02 wsJ0_isLatin1_aae02) := goodIn_app (goodIn_of _ (by decide +kernel)) ggJ0_indexOf_7cf53_J0_isLatin1_aae02
set_option maxRecDepth 20000 in
theorem ggJ0_indexOf_7cf53_J0_length_8abf5 : GoodIn wsJ0_indexOf_7cf53 wsJ0_length_8abf5 := goodIn_r _ [12, 1, 13, 14, 15, 5, 16, 7, 8] rfl (by decide +kernel)
set_option maxRecDepth 20000 in
theorem gJ0_indexOf_7cf53_J0_length_8abf5 : GoodIn wsJ0_indexOf_7cf53 (wsV RJ0 505 RJ0 yJ0_length_8abf5 wsJ0_length_8abf5) := goodIn_app (goodIn_of _ (by decide +kernel)) ggJ0_indexOf_7cf53_J0_length_8abf5
set_option maxRecDepth 20000 in
theorem ggJ0_indexOf_7cf53_J1_indexOf_4cfef : GoodIn wsJ0_indexOf_7cf53 wsJ1_indexOf_4cfef := goodIn_r _ [20, 21, 22, 23, 24, 25, 26, 27, 28, 29, 19, 30, 31, 32, 33] rfl (by decide +kernel)
set_option maxRecDepth 20000 in
theorem gJ0_indexOf_7cf53_J1_indexOf_4cfef : GoodIn wsJ0_indexOf_7cf53 (va_wsS RJ0 637 yJ1_indexOf_4cfef wsJ1_indexOf_4cfef) := goodIn_app (goodIn_of _ (by decide +kernel)) ggJ0_indexOf_7cf53_J1_indexOf_4cfef
set_option maxRecDepth 20000 in
theorem ggJ0_indexOf_7cf53_J2_indexOf_4cfef : GoodIn wsJ0_indexOf_7cf53 wsJ2_indexOf_4cfef := goodIn_r _ [37, 38, 22, 23, 24, 39, 26, 27, 40, 41, 42, 36, 43, 44, 45, 46, 47, 48, 49, 50, 51, 5, 52, 53, 54, 55, 56, 57, 58, 59, 60, 61, 62, 63, 64, 65, 66, 67, 68, 69, 70, 71, 72, 73, 74, 75, 76, 77, 78, 79, 80, 81] rfl (by decide +kernel)
set_option maxRecDepth 20000 in
theorem gJ0_indexOf_7cf53_J2_indexOf_4cfef : GoodIn wsJ0_indexOf_7cf53 (va_wsS RJ0 640 yJ2_indexOf_4cfef wsJ2_indexOf_4cfef) := goodIn_app (goodIn_of _ (by decide +kernel)) ggJ0_indexOf_7cf53_J2_indexOf_4cfef
theorem dJ0_indexOf_7cf53_0 : decode cJ0_indexOf_7cf53 0 = .ok (.aload_n 0, 1) := by decide +kernel
theorem dJ0_indexOf_7cf53_1 : decode cJ0_indexOf_7cf53 1 = .ok (.invokevirtual 492, 3) := by decide +kernel
theorem dJ0_indexOf_7cf53_4 : decode cJ0_indexOf_7cf53 4 = .ok (.ifCond .eq 19, 3) := by decide +kernel
theorem dJ0_indexOf_7cf53_7 : decode cJ0_indexOf_7cf53 7 = .ok (.aload_n 0, 1) := by decide +kernel
theorem dJ0_indexOf_7cf53_8 : decode cJ0_indexOf_7cf53 8 = .ok (.getfield 9, 3) := by decide +kernel
theorem dJ0_indexOf_7cf53_11 : decode cJ0_indexOf_7cf53 11 = .ok (.iload_n 1, 1) := by decide +kernel
theorem dJ0_indexOf_7cf53_12 : decode cJ0_indexOf_7cf53 12 = .ok (.iload_n 2, 1) := by decide +kernel
theorem dJ0_indexOf_7cf53_13 : decode cJ0_indexOf_7cf53 13 = .ok (.aload_n 0, 1) := by decide +kernel
theorem dJ0_indexOf_7cf53_14 : decode cJ0_indexOf_7cf53 14 = .ok (.invokevirtual 505, 3) := by decide +kernel
theorem dJ0_indexOf_7cf53_17 : decode cJ0_indexOf_7cf53 17 = .ok (.invokestatic 637, 3) := by decide +kernel
